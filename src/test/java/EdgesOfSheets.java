import java.math.BigInteger;

/** Boundary cases of promises 27 to 34, and of the 512 calls: sheets, counts and the digest. */
final class EdgesOfSheets extends Edges {
    private static final int[] ACROSS = {0, 1, -1, 127, 128, 255, 256, -128, -129, -255, -256, 32767, 32768, 65535,
        65536, -32768, -32769, -65535, -65536, MOST, LEAST, 0x12345678, 0x7FFFFF80, 0x7FFF8000};

    static void all() {
        sizes();
        newRows();
        losing();
        lowestBits();
        putRefused();
        getting();
        copyingAll();
        copyingNone();
        copyRefused();
        copyIndex();
        writing();
        writeRefused();
        counting();
        latestFinding();
        digestOfNone();
        digestOfSome();
        manyCalls();
        laterCalls();
    }

    // ---- promise 27

    private static void sizes() {
        of(27, "A SHEET is a new row of a FORM with n items: n.");
        for (int form = 0; form < 3; form++) {
            run("").is(call("sheet", 0, form, 0), 0).is(call("get", 0, form, 0), LEAST).is("count(8)", 2);
            run("").is(call("sheet", 3, form, 1), 1).is(call("get", 3, form, 0), 0).is(call("get", 3, form, 1), LEAST);
            run("").is(call("sheet", 1, form, 48), 48).is(call("put", 1, form, 47, 5), 1)
                .is(call("get", 1, form, 47), 5).is(call("put", 1, form, 48, 5), INDEX).is("lose(1)", 48);
        }
        of(27, "BAD: SHEET, FORM, above 48; SIZE.");
        run("").is("sheet(4, 0, 1)", BAD).is("sheet(-1, 0, 1)", BAD).is("sheet(0, 3, 1)", BAD)
            .is("sheet(0, -1, 1)", BAD).is("sheet(0, 0, 49)", BAD).is(call("sheet", 0, 0, MOST), BAD)
            .is(call("sheet", MOST, 0, 1), BAD)
            .is(call("sheet", 0, LEAST, 1), BAD).is("sheet(4, 0, -1)", BAD).is("sheet(0, 3, -1)", BAD)
            .is("sheet(-1, 0, 49)", BAD).is("count(8)", 0).is("lose(0)", NULL);
        run("").is("sheet(0, 0, -1)", SIZE).is("count(8)", 5).is("lose(0)", NULL);
        run("").is(call("sheet", 0, 2, LEAST), SIZE).is("count(8)", 5);
        terms(27, "5 SIZE: below 0.");
        run("").fill(0, 1, 7, 8).is("sheet(0, 0, -1)", SIZE).items(0, 1, 7, 8).is("lose(0)", 2);
    }

    private static void newRows() {
        terms(27, "or a row of a FORM: 0 bytes, 1 shorts, 2 ints, of 0 to 48 items (0 at first).");
        Run r = run("").after("sheet(0, 2, 48)");
        for (int i = 0; i < 48; i++) {
            r.is(call("get", 0, 2, i), 0).after(call("put", 0, 2, i, -1));
        }
        // A new row has no item of the one before it, be it shorter, as long, or of another FORM.
        r.is("sheet(0, 2, 3)", 3).items(0, 2, 0, 0, 0, LEAST).is("sheet(0, 1, 48)", 48);
        for (int i = 0; i < 48; i++) {
            r.is(call("get", 0, 1, i), 0);
        }
        r.is("get(0, 2, 0)", LEAST).is("count(8)", 3).is("sheet(0, 0, 0)", 0).is("lose(0)", 0).is("lose(0)", NULL);
        // The others are as they were.
        run("").fill(0, 0, 1).fill(1, 1, 2).fill(3, 2, 4).is("sheet(1, 0, 1)", 1).items(0, 0, 1).items(1, 0, 0)
            .items(3, 2, 4).is("lose(2)", NULL);
    }

    // ---- promise 28

    private static void losing() {
        of(28, "It is LOST: how many items it had.");
        run("").after("sheet(0, 0, 0)").is("lose(0)", 0).is("lose(0)", NULL);
        run("").after("sheet(3, 2, 48)").is("lose(3)", 48).is("get(3, 2, 0)", LEAST).is("count(8)", 1);
        run("").fill(0, 1, 7, 7).after("lose(0)").is("put(0, 1, 0, 5)", NULL).is("sheet(0, 1, 2)", 2).items(0, 1, 0, 0);
        run("").fill(0, 1, 7).fill(1, 1, 8).is("lose(0)", 1).items(1, 1, 8);
        of(28, "BAD; NULL.");
        run("").is("lose(4)", BAD).is("lose(-1)", BAD).is(call("lose", MOST), BAD).is(call("lose", LEAST), BAD)
            .is("count(8)", 0).is("lose(0)", NULL).is("lose(3)", NULL).is("count(8)", 1);
        terms(28, "1 NULL: the SHEET is LOST;");
        run("00").is("lose(0)", NULL).is("read(0)", NULL).is("put(0, 0, 0, 0)", NULL).is("copy(0, 0, 0, 0, 0)", NULL)
            .is("dew(0, 0, 0)", NULL).is("write(0, 0, 0)", NULL);
    }

    // ---- promises 29 and 30

    private static void lowestBits() {
        of(29, "Item i, treated as of a FORM, becomes v (the lowest bits that it has, with its sign; by write(), "
            + "too): 1.");
        for (int v : ACROSS) {
            int asByte = ((v % 256) + 256) % 256;
            int asShort = ((v % 65536) + 65536) % 65536;
            run("").fill(0, 0, 9, v, 9).items(0, 0, 9, asByte > 127 ? asByte - 256 : asByte, 9)
                .fill(1, 1, 9, v, 9).items(1, 1, 9, asShort > 32767 ? asShort - 65536 : asShort, 9)
                .fill(2, 2, 9, v, 9).items(2, 2, 9, v, 9);
        }
        run("").after("sheet(0, 0, 1)").is("put(0, 0, 0, 127)", 1).is("get(0, 0, 0)", 127).is("put(0, 0, 0, 128)", 1)
            .is("get(0, 0, 0)", -128).is("put(0, 0, 0, 255)", 1).is("get(0, 0, 0)", -1).is("put(0, 0, 0, 256)", 1)
            .is("get(0, 0, 0)", 0);
        run("").after("sheet(0, 1, 1)").is("put(0, 1, 0, 32768)", 1).is("get(0, 1, 0)", -32768)
            .is("put(0, 1, 0, 65535)", 1).is("get(0, 1, 0)", -1);
        of(29, "by write(), too");
        for (int form = 0; form < 3; form++) {
            run(TEN).fill(0, form, 100, 100).is("write(9, 2, 0)", 2).items(0, form, 9, 0);
        }
    }

    private static void putRefused() {
        of(29, "BAD; NULL; CAST; INDEX.");
        run("").is("put(4, 0, 0, 0)", BAD).is("put(-1, 0, 0, 0)", BAD).is("put(0, 3, 0, 0)", BAD)
            .is("put(0, -1, 0, 0)", BAD).is(call("put", MOST, 0, 0, 0), BAD).is(call("put", 0, LEAST, 0, 0), BAD)
            .is("put(4, 0, -1, 0)", BAD).is("count(8)", 0);
        run("").is("put(0, 1, -1, 0)", NULL).is("count(8)", 1);
        run("").fill(0, 0, 7).is("put(0, 1, -1, 0)", CAST).is("put(0, 2, 0, 5)", CAST).is("count(8)", 3)
            .is("put(0, 3, -1, 0)", BAD).is("count(8)", 3).items(0, 0, 7);
        terms(29, "2 INDEX: there is no such item;");
        run("").fill(0, 0, 7).is("put(0, 0, 1, 5)", INDEX).is("put(0, 0, -1, 5)", INDEX)
            .is(call("put", 0, 0, MOST, 5), INDEX).is(call("put", 0, 0, LEAST, 5), INDEX).is("count(8)", 2)
            .items(0, 0, 7);
        run("").after("sheet(0, 0, 0)").is("put(0, 0, 0, 5)", INDEX);
        run("").after("sheet(0, 0, 48)").is("put(0, 0, 47, 5)", 1).is("put(0, 0, 48, 5)", INDEX);
        terms(29, "3 CAST: it has another FORM;");
        for (int form = 0; form < 3; form++) {
            for (int other = 0; other < 3; other++) {
                run("").fill(0, form, 7).is(call("put", 0, other, 0, 5), form == other ? 1 : CAST)
                    .items(0, form, form == other ? 5 : 7);
            }
        }
    }

    private static void getting() {
        of(30, "Item i of it.");
        run("").fill(0, 2, LEAST, MOST, -2, -12).items(0, 2, LEAST, MOST, -2, -12).is("count(8)", 0);
        run("").fill(3, 0, -128, 127).items(3, 0, -128, 127);
        of(30, "BAD: the least int; so are NULL, CAST, INDEX (count() 8 tells).");
        run("").is("get(4, 0, 0)", LEAST).is("get(-1, 0, 0)", LEAST).is("get(0, 3, 0)", LEAST)
            .is("get(0, -1, 0)", LEAST).is(call("get", MOST, 0, 0), LEAST).is(call("get", 0, LEAST, 0), LEAST)
            .is("count(8)", 0);
        run("").is("get(0, 0, 0)", LEAST).is("count(8)", 1).is("get(0, 3, 0)", LEAST).is("count(8)", 1);
        run("").fill(0, 1, 7).is("get(0, 0, 0)", LEAST).is("count(8)", 3).is("get(0, 1, 1)", LEAST).is("count(8)", 2)
            .is("get(0, 2, 0)", LEAST).is("count(8)", 3).is("get(0, 1, -1)", LEAST).is("count(8)", 2)
            .is("get(0, 0, -1)", LEAST).is("count(8)", 3).is(call("get", 0, 1, MOST), LEAST).is("count(8)", 2)
            .is(call("get", 0, 1, LEAST), LEAST).is("count(8)", 2).items(0, 1, 7).is("count(8)", 2);
        run("").after("sheet(0, 0, 0)").is("get(0, 0, 0)", LEAST).is("count(8)", 2);
    }

    // ---- promise 31

    private static void copyingAll() {
        of(31, "n items of SHEET s, from i on, come to SHEET t (perhaps s, as they were), from j on: 1.");
        run("").fill(0, 1, 1, 2, 3).fill(3, 1, 7, 8, 9).is("copy(0, 0, 3, 0, 3)", 1).items(3, 1, 1, 2, 3)
            .items(0, 1, 1, 2, 3);
        run("").fill(0, 1, 1, 2, 3).fill(3, 1, 7, 8, 9).is("copy(0, 2, 3, 0, 1)", 1).items(3, 1, 3, 8, 9);
        run("").fill(0, 1, 1, 2, 3).fill(3, 1, 7, 8, 9).is("copy(0, 0, 3, 2, 1)", 1).items(3, 1, 7, 8, 1);
        // As they were: upwards, downwards, upon themselves.
        run("").fill(2, 0, 1, 2, 3, 4).is("copy(2, 0, 2, 1, 3)", 1).items(2, 0, 1, 1, 2, 3);
        run("").fill(2, 0, 1, 2, 3, 4).is("copy(2, 1, 2, 0, 3)", 1).items(2, 0, 2, 3, 4, 4);
        run("").fill(2, 0, 1, 2, 3, 4).is("copy(2, 0, 2, 0, 4)", 1).items(2, 0, 1, 2, 3, 4);
        // All that a SHEET can have, and what comes behind is a copy, not the same row.
        Run full = run("").after("sheet(0, 2, 48)", "sheet(1, 2, 48)");
        for (int i = 0; i < 48; i++) {
            full.after(call("put", 0, 2, i, LEAST + i));
        }
        full.is("copy(0, 0, 1, 0, 48)", 1).after("put(0, 2, 0, 5)").is("get(1, 2, 0)", LEAST);
        for (int i = 1; i < 48; i++) {
            full.is(call("get", 1, 2, i), LEAST + i);
        }
    }

    private static void copyingNone() {
        of(31, "(of n 0, too: i or j above the size).");
        run("").fill(0, 0, 1, 2).fill(1, 0, 3).is("copy(0, 0, 1, 0, 0)", 1).is("copy(0, 2, 1, 1, 0)", 1)
            .is("copy(0, 2, 0, 2, 0)", 1).is("count(8)", 0).items(0, 0, 1, 2).items(1, 0, 3);
        run("").fill(0, 0, 1, 2).fill(1, 0, 3).is("copy(0, 3, 1, 0, 0)", INDEX).is("copy(0, 0, 1, 2, 0)", INDEX)
            .is("copy(0, -1, 1, 0, 0)", INDEX).is("copy(0, 0, 1, -1, 0)", INDEX).is("count(8)", 2);
        run("").after("sheet(0, 0, 0)").is("copy(0, 0, 0, 0, 0)", 1).is("copy(0, 1, 0, 0, 0)", INDEX)
            .is("copy(0, 0, 0, 1, 0)", INDEX).is("copy(0, 0, 0, 0, 1)", INDEX);
        run("").after("sheet(0, 0, 48)").is("copy(0, 48, 0, 48, 0)", 1).is("copy(0, 49, 0, 0, 0)", INDEX)
            .is("copy(0, 0, 0, 49, 0)", INDEX);
    }

    private static void copyRefused() {
        of(31, "BAD: the SHEETS; NULL: s, t; STORE;");
        run("").is("copy(4, 0, 0, 0, 0)", BAD).is("copy(-1, 0, 0, 0, 0)", BAD).is("copy(0, 0, 4, 0, 0)", BAD)
            .is("copy(0, 0, -1, 0, 0)", BAD).is(call("copy", MOST, 0, 0, 0, 0), BAD)
            .is(call("copy", 0, 0, LEAST, 0, 0), BAD).is("copy(4, -1, 0, -1, -1)", BAD).is("count(8)", 0);
        run("").is("copy(0, 0, 1, 0, 0)", NULL).is("count(8)", 1);
        run("").fill(0, 0, 1).is("copy(0, 0, 1, 0, 1)", NULL).is("copy(1, 0, 0, 0, 1)", NULL)
            .is("copy(0, -1, 1, 0, 1)", NULL).is("copy(0, 0, 4, 0, 1)", BAD).items(0, 0, 1);
        terms(31, "4 STORE: unlike FORMS;");
        for (int form = 0; form < 3; form++) {
            for (int other = 0; other < 3; other++) {
                run("").fill(0, form, 7).fill(1, other, 5).is("copy(0, 0, 1, 0, 1)", form == other ? 1 : STORE)
                    .is("count(8)", form == other ? 0 : 4).items(1, other, form == other ? 7 : 5);
            }
        }
        // STORE before INDEX, and of no items, too.
        run("").fill(0, 0, 1).fill(1, 1, 1).is("copy(0, -1, 1, 0, 1)", STORE).is("copy(0, 0, 1, 0, 0)", STORE)
            .is("copy(0, 0, 1, 0, 9)", STORE).is("count(8)", 4);
    }

    private static void copyIndex() {
        of(31, "INDEX: i, j or n below 0, not so many there");
        int[][] beyond = {{-1, 0, 1}, {0, -1, 1}, {0, 0, -1}, {0, 0, 4}, {1, 0, 3}, {0, 1, 2}, {3, 0, 1}, {0, 2, 1},
            {0, 0, 3}, {MOST, 0, 1}, {0, MOST, 1}, {0, 0, MOST}, {1, 1, MOST}, {MOST, MOST, MOST}, {LEAST, 0, 1},
            {0, LEAST, 1}, {0, 0, LEAST}, {2, 0, MOST}, {MOST, 0, 2}, {-1, -1, 2}, {3, 2, -1}};
        for (int[] b : beyond) {
            run("").fill(0, 0, 1, 2, 3).fill(1, 0, 8, 9).is(call("copy", 0, b[0], 1, b[1], b[2]), INDEX)
                .is("count(8)", 2).items(0, 0, 1, 2, 3).items(1, 0, 8, 9);
        }
        int[][] within = {{0, 0, 2}, {1, 0, 2}, {2, 1, 1}, {2, 0, 1}, {0, 1, 1}};
        for (int[] w : within) {
            run("").fill(0, 0, 1, 2, 3).fill(1, 0, 8, 9).is(call("copy", 0, w[0], 1, w[1], w[2]), 1)
                .is(call("get", 1, 0, w[1]), w[0] + 1);
        }
    }

    // ---- promise 32

    private static void writing() {
        of(32, "PEGS of a WEB come to a SHEET from item 0 on, as many as there are items and PEGS of it: how many.");
        run(TEN).fill(0, 0, 7, 7, 7, 7, 7, 7, 7, 7, 7, 7, 7).is("write(9, 2, 0)", 10)
            .items(0, 0, 9, 0, 1, 2, 3, 4, 5, 6, 7, 8, 7);
        run(TEN).fill(0, 1, 7, 7, 7, 7, 7, 7, 7, 7, 7, 7).is("write(0, 1, 0)", 10)
            .items(0, 1, 0, 9, 1, 8, 2, 7, 3, 6, 4, 5);
        run(TEN).fill(0, 2, 7, 7, 7, 7, 7, 7, 7, 7, 7).is("write(0, 0, 0)", 9).items(0, 2, 0, 1, 2, 3, 4, 5, 6, 7, 8);
        run(TEN).after("sheet(3, 0, 0)").is("write(0, 0, 3)", 0);
        run(TEN).fill(0, 0, 7).is("write(5, 0, 0)", 1).items(0, 0, 5);
        run("00").fill(0, 0, 7, 7).is("write(0, 0, 0)", 1).items(0, 0, 0, 7);
        run("00;01").after("set(0, 0)").fill(0, 0, 7, 7).is("write(1, 0, 0)", 1).items(0, 0, 1, 7);
        run(TEN).after("sheet(0, 0, 48)").is("write(0, 0, 0)", 10).is("get(0, 0, 9)", 9).is("get(0, 0, 10)", 0);
    }

    private static void writeRefused() {
        of(32, "BAD; NULL; NOT.");
        run("00;01").is("write(0, 0, 4)", BAD).is("write(0, 0, -1)", BAD).is("write(2, 0, 0)", BAD)
            .is("write(-1, 0, 0)", BAD).is("write(0, 4, 0)", BAD).is("write(0, -1, 0)", BAD).is("count(8)", 0)
            .is("write(0, 0, 0)", NULL).is("count(8)", 1);
        run("00;01").after("hide(0, 1)").is("write(0, 0, 0)", NULL).is("write(0, 4, 0)", BAD).fill(0, 0, 7)
            .is("write(0, 0, 0)", NOT).is("write(0, 0, 4)", BAD).items(0, 0, 7);
        run("").fill(0, 0, 7).is("write(0, 0, 0)", BAD).items(0, 0, 7);
    }

    // ---- promise 33

    private static void counting() {
        of(33, "0 PEGS, 1 bytes, 2 HIDDEN ones that there are, 3 THREAD, 4 HUNGER, 5 REACH, 6 SEEN, 7 FAR of all "
            + "pairs of PEGS together");
        int[] first = {0, 0, 0, 99, 0, 1, 0, 0, 0};
        for (int what = 0; what < first.length; what++) {
            run("").is(call("count", what), first[what]);
        }
        run(TEN).is("count(0)", 10).is("count(1)", 29).is("count(7)", 165);
        run(TEN + ";").is("count(0)", 0).is("count(1)", 30).is("count(7)", 0);
        run("00").is("count(0)", 1).is("count(7)", 0);
        run("00;99").is("count(7)", 18).after("hide(0, 1)", "hide(1, 1)").is("count(7)", 18).is("count(0)", 2);
        // HIDDEN ones that are not there do not count.
        run("00;01").fill(0, 0, 0, 1, 1, 1, 1, 1, 1, 1, 1, 1).after("read(0)").is("count(2)", 1).after("hide(0, 1)")
            .is("count(2)", 2).after("wipe()").is("count(2)", 0);
        run("").after("set(0, 200)", "set(1, 9)", "set(2, 9)").is("count(3)", 200).is("count(4)", 9).is("count(5)", 9);
        of(33, "BAD.");
        run("").is("count(9)", BAD).is("count(-1)", BAD).is(call("count", MOST), BAD).is(call("count", LEAST), BAD);
    }

    private static void latestFinding() {
        of(33, ", 8 the number of the latest FINDING (0 before any).");
        run("").is("count(8)", 0).after("read(0)").is("count(8)", 1).after("sheet(0, 0, -1)").is("count(8)", 5)
            .after("sheet(0, 0, 1)").is("count(8)", 5).after("put(0, 0, 1, 0)").is("count(8)", 2)
            .after("put(0, 1, 0, 0)").is("count(8)", 3).after("sheet(1, 1, 1)", "copy(0, 0, 1, 0, 1)")
            .is("count(8)", 4).after("lose(2)").is("count(8)", 1);
        // Neither other refusals nor what goes well is one.
        run("").after("lose(0)", "type(-1)", "undo()", "begin(0)", "count(9)", "sheet(0, 0, 3)", "put(0, 0, 0, -12)",
            "get(0, 0, 0)", "digest()", "wipe()").is("count(8)", 1);
        terms(33, "FINDINGS (answers -10 less the number; they change nothing but count() 8): ");
        run("").is("lose(0)", -10 - 1).is("count(8)", 1);
        run("").fill(0, 0, 7).is("put(0, 0, 1, 0)", -10 - 2).is("count(8)", 2).items(0, 0, 7);
        run("").fill(0, 0, 7).is("put(0, 1, 0, 0)", -10 - 3).is("count(8)", 3).items(0, 0, 7);
        run("").fill(0, 0, 7).fill(1, 1, 8).is("copy(0, 0, 1, 0, 1)", -10 - 4).is("count(8)", 4).items(1, 1, 8);
        run("").fill(0, 0, 7).is("sheet(0, 0, -1)", -10 - 5).is("count(8)", 5).items(0, 0, 7);
    }

    // ---- promise 34

    /** Mixes answers without a number that wraps, and wraps but at the end. */
    private static long mixed(long... told) {
        BigInteger h = BigInteger.valueOf(17);
        for (long v : told) {
            h = h.multiply(BigInteger.valueOf(31)).add(BigInteger.valueOf(v));
        }
        return h.longValue();
    }

    private static void digestOfNone() {
        of(34, "h is 17; h becomes 31 h and each of (of each thing all that is told of it, then of the next one): "
            + "count() 0 to 7; fault();");
        run("").is("digest()", mixed(0, 0, 0, 99, 0, 1, 0, 0, NONE, NONE, NONE, NONE, NONE, BAD, BAD, BAD, BAD, BAD,
            BAD, 15, NONE));
        run("x").after("set(0, 200)", "set(1, 9)", "set(2, 0)", "seen(0, 1, 1)").is("digest()", mixed(0, 1, 0, 200,
            9, 0, 1, 0, 0, NONE, NONE, NONE, NONE, BAD, BAD, BAD, BAD, BAD, BAD, 0, NONE));
        // count() 8 and the SHEETS are not of it.
        long none = run("").ask("digest()");
        run("").after("lose(0)", "sheet(1, 2, 4)", "put(1, 2, 0, 5)").is("digest()", none).is("count(8)", 1);
    }

    private static void digestOfSome() {
        of(34, "of PEGS, for LAWS 0 to 3, length() 0 to 2, crosses(), turned(), web(it, law, 1), hangs(it, law, 0), "
            + "pieces(it, law, 1), flies(it, law, 7, 9) (all as they are told);");
        // One PEG at 9 9: it catches those flies by 7 that come to 9 9, 9 8 or 8 9; pieces() without 1 is BAD.
        long caught = run("99").ask("flies(0, 0, 7, 9)");
        long[] one = {0, 1, 99, 0, 1, NONE, 0, BAD, caught};
        long[] all = new long[9 + 4 * one.length + 12];
        long[] counts = {1, 2, 0, 99, 0, 1, 0, 0, NONE};
        System.arraycopy(counts, 0, all, 0, 9);
        for (int law = 0; law < 4; law++) {
            System.arraycopy(one, 0, all, 9 + law * one.length, one.length);
        }
        long[] rest = {0, 0, 0, 0, BAD, BAD, BAD, BAD, BAD, 9 - 5 + 9 - 5, 15, 0};
        System.arraycopy(rest, 0, all, all.length - 12, 12);
        run("99").is("digest()", mixed(all));
        of(34, "begin() of LAWS 0 to 3, last(0, 0, 1, 0 and 1), two(0, 0, 1, 1, 0 to 2), more(0, 0, 5, 5) (as they are "
            + "told), fits(), tells();");
        // The one PEG is HIDDEN: NOT, wherever it was told before.
        for (int k = 0; k < 4 * one.length; k++) {
            all[9 + k] = k % one.length == 7 ? BAD : NOT;
        }
        all[2] = 1;
        long[] hidden = {NONE, NONE, NONE, NONE, BAD, BAD, BAD, BAD, BAD, NOT, 15, NONE};
        System.arraycopy(hidden, 0, all, all.length - 12, 12);
        run("99").after("hide(0, 1)").is("digest()", mixed(all));
        of(34, "; as longs that wrap.");
        String[] texts = {"00;99", "55;01;83", TEN, NINE, TEN + ";", "12;80;37;55;91;26"};
        for (String text : texts) {
            run(text).is("digest()", mixed(told(run(text))));
            run(text).after("hide(0, 1)", "set(0, 17)").is("digest()",
                mixed(told(run(text).after("hide(0, 1)", "set(0, 17)"))));
            // With so much REACH each fly counts.
            run(text).after("set(2, 9)").is("digest()", mixed(told(run(text).after("set(2, 9)"))));
        }
    }

    /** What the digest is made of, by the calls that it tells. */
    private static long[] told(Run r) {
        StringBuilder calls = new StringBuilder();
        for (int what = 0; what < 8; what++) {
            calls.append("count(").append(what).append(")/");
        }
        calls.append("fault()/");
        long pegs = r.ask("count(0)");
        for (int p = 0; p < pegs; p++) {
            for (int law = 0; law < 4; law++) {
                String it = p + ", " + law;
                calls.append("length(IT, 0)/length(IT, 1)/length(IT, 2)/crosses(IT)/turned(IT)/web(IT, 1)/hangs(IT, 0)/"
                    .replace("IT", it)).append("pieces(IT, 1)/flies(IT, 7, 9)/".replace("IT", it));
            }
        }
        calls.append("begin(0)/begin(1)/begin(2)/begin(3)/last(0, 0, 1, 0)/last(0, 0, 1, 1)/two(0, 0, 1, 1, 0)/")
            .append("two(0, 0, 1, 1, 1)/two(0, 0, 1, 1, 2)/more(0, 0, 5, 5)/fits()/tells()");
        String[] each = calls.toString().split("/");
        long[] answers = new long[each.length];
        for (int k = 0; k < each.length; k++) {
            answers[k] = r.ask(each[k]);
        }
        return answers;
    }

    // ---- the 512 calls

    private static void manyCalls() {
        whatItIs(34, "An object is used for at most 512 calls after it has been made; what later calls answer is "
            + "free.");
        long due = run(TEN).ask("digest()");
        Run same = run(TEN);
        while (same.calls() < Run.MOST_CALLS) {
            same.is("digest()", due);
        }
        // All by changes, the last call by what they left.
        Run changed = run("");
        while (changed.calls() < Run.MOST_CALLS - 40) {
            int b = changed.calls() % 256;
            changed.after(call("type", b), call("hide", b % 10, b % 2), call("sheet", b % 4, b % 3, b % 49),
                call("seen", b % 10, 1 + b % 9, b % 7), "wipe()");
        }
        for (int peg = 0; peg < 10; peg++) {
            changed.after(call("hide", peg, 0));
        }
        changed.after("forget()").type("00;01;02;03;04");
        while (changed.calls() < Run.MOST_CALLS - 1) {
            changed.is("fault()", NONE);
        }
        changed.is("digest()", run("00;01;02;03;04").ask("digest()"));
        due("calls", changed.calls(), Run.MOST_CALLS);
    }

    private static void laterCalls() {
        section(34, "Not promised", "nothing about an object after its 512th call.");
        // What they answer is free; but they answer, whatever was called before.
        SpiderLoom x = new SpiderLoom();
        int answered = 0;
        for (int k = 0; k < 4 * Run.MOST_CALLS; k++) {
            x.type('0' + k % 12);
            x.seen(k % 10, 1 + k % 9, k % 10);
            x.sheet(k % 4, k % 3, k % 49);
            x.digest();
            answered++;
        }
        due("answered", answered, 4 * Run.MOST_CALLS);
    }
}
