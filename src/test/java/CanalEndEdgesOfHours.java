import java.util.Arrays;

/** The boundary cases of promises 10 to 20: hours, gauges. */
public final class CanalEndEdgesOfHours {
    public static void main(String[] args) {
        hoursRefused();
        behind();
        seeps();
        level();
        takesByRight();
        takesByALowerPipe();
        takesByASyphon();
        takesNoMoreThanThereIs();
        rowRefused();
        rowFaults();
        rowCells();
        rowWhat();
        rowOfManyHours();
        rowWithoutACanal();
        reading();
        readingFull();
        back();
        backTakesTheLast();
        fits();
        sure();
        guilt();
        tellsRefused();
        tells();
        Edge.end();
    }

    // ---- promises 10 to 13

    private static void hoursRefused() {
        for (boolean night : new boolean[] {false, true}) {
            hoursRefused("promise 10, behind", (x, j, f) -> x.behind(j, f, night));
            hoursRefused("promise 11, seeps", (x, j, f) -> x.seeps(j, f, night));
            hoursRefused("promise 12, level", (x, j, f) -> x.level(j, f, night));
            hoursRefused("promise 13, takes", (x, o, f) -> x.takes(o, f, night));
        }
    }

    private interface HourCall {
        long on(CanalEnd x, int k, int f);
    }

    private static void hoursRefused(String promise, HourCall call) {
        Edge e = Edge.of(promise, Edge::busy);
        e.bounds("MILE or OUTLET", (x, k) -> call.on(x, k, 40), 0, 2, Edge.UNKNOWN);
        e.bounds("f", (x, f) -> call.on(x, 2, f), 0, 9999, Edge.OUTSIDE);
        e.refused("UNKNOWN is ahead of OUTSIDE", x -> call.on(x, 3, 10000), Edge.UNKNOWN);
        e.refused("UNKNOWN is ahead of OUTSIDE below", x -> call.on(x, -1, -1), Edge.UNKNOWN);
        e.asks("changes nothing", x -> Math.min(0, call.on(x, 0, 40)), 0);
        Edge.of(promise, CanalEnd::new).refused("without a CANAL", x -> call.on(x, 0, 40), Edge.UNKNOWN);
        Edge uneven = Edge.of(promise, () -> Edge.with("w5;m00o11o11;m00"));
        boolean ofOutlets = promise.endsWith("takes");
        uneven.bounds("MILE or OUTLET of two", (x, k) -> call.on(x, k, 40), 0, 1, Edge.UNKNOWN);
        Edge few = Edge.of(promise, () -> Edge.with("w5;m00o11;m00;m00"));
        few.bounds("MILE of three, OUTLET of one", (x, k) -> call.on(x, k, 40), 0, ofOutlets ? 0 : 2, Edge.UNKNOWN);
    }

    private static void behind() {
        Edge e = Edge.of("promise 10, behind", Edge::busy);
        e.asks("no water", x -> x.behind(0, 0, true), 0);
        e.asks("by day", x -> x.behind(0, 40, false), 30);
        e.asks("by night", x -> x.behind(0, 40, true), 22);
        e.asks("a MILE that neither seeps nor has OUTLETS", x -> x.behind(1, 40, true), 22);
        e.asks("behind the last one", x -> x.behind(2, 40, true), 14);
        Edge bare = Edge.of("promise 10, behind", () -> Edge.with("w5" + ";m09".repeat(10)));
        bare.asks("all water, behind ten MILES", x -> x.behind(9, 9999, true), 9999);
    }

    private static void seeps() {
        int[][] rows = {{9, 11, 0}, {9, 12, 1}, {9, 9999, 899}, {1, 99, 0}, {1, 100, 1}, {0, 9999, 0}, {9, 0, 0}};
        for (int[] row : rows) {
            CanalEnd x = Edge.with("w50;m" + row[0] + "0");
            Edge.due("promise 11: SEEP " + row[0] + " of " + row[1] + " (cut)", x.seeps(0, row[1], false), row[2]);
        }
        Edge e = Edge.of("promise 11, seeps", () -> Edge.with("w50;m90;m90"));
        e.asks("of what comes to the first MILE", x -> x.seeps(0, 100, false), 9);
        e.asks("of what comes to the next one", x -> x.seeps(1, 100, false), 8);
    }

    private static void level() {
        String[] texts = {"w99;m00", "w99;m00", "w99;m09", "w1;m09", "w1;m09", "w10;m90"};
        int[][] rows = {{9, 0}, {10, 1}, {9, 9}, {9999, 99999}, {0, 9}, {100, 91}};
        for (int i = 0; i < texts.length; i++) {
            CanalEnd x = Edge.with(texts[i]);
            Edge.due("promise 12: LEVEL of '" + texts[i] + "' with " + rows[i][0], x.level(0, rows[i][0], true), rows[i][1]);
        }
        Edge e = Edge.of("promise 12, level", () -> Edge.with("w10;m00o10o10;m00"));
        e.asks("as it is ahead of the MILE's OUTLETS", x -> x.level(0, 20, false), 20);
        e.asks("of what is left behind them", x -> x.level(1, 20, false), 0);
    }

    /** Of 9 at WIDTH 99 LEVEL is just SILT. */
    private static void takesByRight() {
        String[] outlets = {"o54", "o53", "o52", "o51", "o10", "o19"};
        int[] due = {0, 0, 5, 9, 3, 0};
        for (int i = 0; i < outlets.length; i++) {
            for (boolean night : new boolean[] {false, true}) {
                CanalEnd x = Edge.with("w99;m03" + outlets[i]);
                Edge.due("promise 13: RIGHT, LEVEL 3, '" + outlets[i] + "'", x.takes(0, 9, night), due[i]);
            }
        }
    }

    private static void takesByALowerPipe() {
        int[] right = {1, 0, 0, 0, 0, 0};
        int[] low = {1, 1, 1, 1, 0, 0};
        for (int height = 0; height <= 5; height++) {
            for (boolean night : new boolean[] {false, true}) {
                CanalEnd x = Edge.with("w99;m01o1" + height);
                Edge.due("promise 13: RIGHT, LEVEL 1, HEIGHT " + height, x.takes(0, 9, night), right[height]);
                x.kind(0, 1);
                Edge.due("promise 13: LOW, 3 less, 0 at least, HEIGHT " + height, x.takes(0, 9, night), low[height]);
            }
        }
        CanalEnd nine = Edge.with("w99;m06o19");
        nine.kind(0, 1);
        Edge.due("promise 13: LOW, HEIGHT 9, LEVEL 6", nine.takes(0, 9, false), 0);
        nine.turn(0, 1, 7);
        Edge.due("promise 13: LOW, HEIGHT 9, LEVEL 7", nine.takes(0, 9, false), 1);
    }

    private static void takesByASyphon() {
        int[] low = {1, 1, 1, 1, 0, 0};
        for (int height = 0; height <= 5; height++) {
            CanalEnd x = Edge.with("w99;m01o1" + height);
            x.kind(0, 2);
            Edge.due("promise 13: NIGHTLY by day, HEIGHT " + height, x.takes(0, 9, false), low[height]);
            Edge.due("promise 13: NIGHTLY by night, HEIGHT " + height, x.takes(0, 9, true), low[height] + 5);
            x.syphon(0);
            Edge.due("promise 13: NIGHTLY by night, SYPHON 0", x.takes(0, 9, true), low[height]);
            x.syphon(99);
            Edge.due("promise 13: NIGHTLY by night, SYPHON 99", x.takes(0, 9, true), 9);
            Edge.due("promise 13: NIGHTLY by day, SYPHON 99", x.takes(0, 9, false), low[height]);
        }
        CanalEnd much = Edge.with("w99;m00o19");
        much.kind(0, 2);
        much.syphon(99);
        much.turn(0, 1, 9);
        Edge.due("promise 13: LEVEL 29, HEIGHT 9 less 3, SYPHON 99", much.takes(0, 200, true), 23 + 99);
        Edge.due("promise 13: LEVEL 19, HEIGHT 9 less 3, SYPHON 99, not so much there", much.takes(0, 101, true), 101);
    }

    private static void takesNoMoreThanThereIs() {
        Edge e = Edge.of("promise 13, takes", () -> Edge.with("w99;m03o52o52o52"));
        e.asks("all that it may", x -> x.takes(0, 9, false), 5);
        e.asks("what there still is", x -> x.takes(1, 9, false), 4);
        e.asks("nothing is left", x -> x.takes(2, 9, false), 0);
        e.asks("just enough", x -> x.takes(0, 5, false), 5);
        e.asks("one too little", x -> x.takes(0, 4, false), 4);
        e.asks("no water", x -> x.takes(0, 0, false), 0);
        Edge night = Edge.of("promise 13, takes", () -> {
            CanalEnd x = Edge.with("w99;m01o10o19");
            x.kind(0, 2);
            x.kind(1, 2);
            return x;
        });
        night.asks("by syphon, what there is", x -> x.takes(0, 3, true), 3);
        night.asks("by syphon, what there still is", x -> x.takes(1, 9, true), 3);
        night.asks("by syphon, of no water", x -> x.takes(0, 0, true), 0);
        Edge.of("promise 13, takes", () -> Edge.with("w1;m09o90"))
                .asks("the most", x -> x.takes(0, 9999, false), 9999);
    }

    // ---- promise 14

    private static void rowRefused() {
        Edge e = Edge.ofFaults("promise 14, row", Edge::busy);
        e.bounds("SHEET", (x, k) -> x.row(k, Edge.BYTES, 0, 0, 0), 0, 3, Edge.UNKNOWN);
        e.bounds("sort", (x, sort) -> x.row(0, sort, 0, 1, 0), 0, 2, Edge.OUTSIDE);
        e.refused("UNKNOWN is ahead of OUTSIDE: sort", x -> x.row(4, 3, 0, 1, 0), Edge.UNKNOWN);
        e.refused("UNKNOWN is ahead of SIZE", x -> x.row(-1, 0, 0, -1, 0), Edge.UNKNOWN);
        e.refused("UNKNOWN is ahead of OUTSIDE: what", x -> x.row(4, 0, 0, 1, -1), Edge.UNKNOWN);
        e.refused("OUTSIDE: sort is ahead of NULL", x -> x.row(2, 3, 0, 1, 0), Edge.OUTSIDE);
        e.refused("OUTSIDE: sort is ahead of SIZE", x -> x.row(0, -1, 0, -1, 0), Edge.OUTSIDE);
        e.refused("OUTSIDE: sort is ahead of INDEX", x -> x.row(0, 3, 9, 1, 0), Edge.OUTSIDE);
    }

    private static void rowFaults() {
        Edge e = Edge.ofFaults("promise 14, row", Edge::busy);
        e.faulty("bytes are no shorts", x -> x.row(0, Edge.SHORTS, 0, 1, 0), Edge.CAST);
        e.faulty("ints are no bytes", x -> x.row(1, Edge.BYTES, 2, 1, 0), Edge.CAST);
        e.faulty("nothing is no CAST", x -> x.row(2, Edge.BYTES, 0, 1, 0), Edge.NULL);
        e.faulty("CAST is ahead of SIZE", x -> x.row(0, Edge.INTS, 0, -1, 0), Edge.CAST);
        e.faulty("CAST is ahead of OUTSIDE: what", x -> x.row(0, Edge.INTS, 0, 1, -1), Edge.CAST);
        e.faulty("NULL is ahead of SIZE", x -> x.row(2, Edge.INTS, 0, -1, 0), Edge.NULL);
        e.faulty("NULL is ahead of OUTSIDE: what", x -> x.row(2, Edge.INTS, 0, 1, 4), Edge.NULL);
        e.faulty("n -1", x -> x.row(0, Edge.BYTES, 0, -1, 0), Edge.SIZE);
        e.faulty("n far below 0", x -> x.row(0, Edge.BYTES, 0, Edge.LEAST, 0), Edge.SIZE);
        e.faulty("SIZE is ahead of INDEX", x -> x.row(0, Edge.BYTES, -1, -1, 0), Edge.SIZE);
        e.faulty("SIZE is ahead of OUTSIDE: what", x -> x.row(0, Edge.BYTES, 0, -1, 9), Edge.SIZE);
        e.faulty("i -1", x -> x.row(0, Edge.BYTES, -1, 1, 0), Edge.INDEX);
        e.faulty("i -1, no cell is taken", x -> x.row(0, Edge.BYTES, -1, 0, 0), Edge.INDEX);
        e.faulty("i beyond, no cell is taken", x -> x.row(0, Edge.BYTES, 4, 0, 0), Edge.INDEX);
        e.faulty("one cell at the end", x -> x.row(0, Edge.BYTES, 3, 1, 0), Edge.INDEX);
        e.faulty("one cell too many", x -> x.row(0, Edge.BYTES, 1, 3, 0), Edge.INDEX);
        e.faulty("i and n beyond any int", x -> x.row(0, Edge.BYTES, 2, Edge.MOST, 0), Edge.INDEX);
        e.faulty("INDEX is ahead of OUTSIDE: what", x -> x.row(0, Edge.BYTES, 0, 4, 13), Edge.INDEX);
        e.faulty("INDEX is ahead of OUTSIDE: a cell", x -> x.row(1, Edge.INTS, 0, 5, 0), Edge.INDEX);
    }

    private static void rowCells() {
        Edge e = Edge.ofFaults("promise 14, row", Edge::busy);
        e.refused("a cell 10000", x -> x.row(1, Edge.INTS, 0, 1, 0), Edge.OUTSIDE);
        e.refused("a cell -10000", x -> x.row(1, Edge.INTS, 1, 1, 0), Edge.OUTSIDE);
        e.refused("the first of the cells", x -> x.row(1, Edge.INTS, 1, 3, 0), Edge.OUTSIDE);
        e.asks("9999, by day", x -> x.row(1, Edge.INTS, 2, 1, 0), 9999);
        e.asks("-9999, by night", x -> x.row(1, Edge.INTS, 3, 1, 0), 9999);
        e.asks("cells that are not taken may be any", x -> x.row(1, Edge.INTS, 2, 2, 0), 19998);
        e.asks("no HOURS", x -> x.row(0, Edge.BYTES, 0, 0, 0), 0);
        e.asks("no HOURS, from the end on", x -> x.row(0, Edge.BYTES, 3, 0, 3), 0);
        e.asks("no HOURS, next to a cell that is outside", x -> x.row(1, Edge.INTS, 0, 0, 2), 0);
        e.asks("all cells", x -> x.row(0, Edge.BYTES, 0, 3, 0), 207);
        Edge far = Edge.ofFaults("promise 14, row", () -> {
            CanalEnd x = Edge.with("w5;m00");
            Edge.lay(x, 0, Edge.INTS, 0, 1, Edge.LEAST, Edge.MOST);
            return x;
        });
        far.refused("the least cell that can be", x -> x.row(0, Edge.INTS, 2, 1, 0), Edge.OUTSIDE);
        far.refused("the last cell of those taken", x -> x.row(0, Edge.INTS, 0, 3, 0), Edge.OUTSIDE);
        far.refused("the most that can be", x -> x.row(0, Edge.INTS, 3, 1, 0), Edge.OUTSIDE);
        far.asks("a cell 0", x -> x.row(0, Edge.INTS, 0, 2, 3), 1);
    }

    private static void rowWhat() {
        Edge e = Edge.ofFaults("promise 14, row", Edge::busy);
        e.bounds("what", (x, what) -> x.row(0, Edge.BYTES, 0, 2, what), 0, 3, Edge.OUTSIDE);
        e.bounds("10 and an OUTLET", (x, what) -> x.row(0, Edge.BYTES, 0, 2, what), 10, 12, Edge.OUTSIDE);
        e.refused("what, where there are no HOURS", x -> x.row(0, Edge.BYTES, 0, 0, 13), Edge.OUTSIDE);
        int[] due = {80, 4, 42, 34};
        for (int what = 0; what <= 3; what++) {
            int asked = what;
            e.asks("by day and by night, what " + what, x -> x.row(0, Edge.BYTES, 0, 2, asked), due[what]);
        }
        int[] taken = {8, 16, 18};
        for (int o = 0; o <= 2; o++) {
            int what = 10 + o;
            e.asks("OUTLET " + o, x -> x.row(0, Edge.BYTES, 0, 2, what), taken[o]);
        }
        e.asks("by day alone", x -> x.row(0, Edge.BYTES, 0, 1, 11), 4);
        e.asks("by night alone", x -> x.row(0, Edge.BYTES, 1, 1, 11), 12);
        Edge eight = Edge.ofFaults("promise 14, row", () -> {
            CanalEnd x = Edge.with("w5;m00o10o10o10o10o10o10o10o10");
            Edge.lay(x, 0, Edge.BYTES, 1);
            return x;
        });
        eight.bounds("10 and one of eight", (x, what) -> x.row(0, Edge.BYTES, 0, 1, what), 10, 17, Edge.OUTSIDE);
    }

    private static void rowOfManyHours() {
        int[] most = new int[100];
        Arrays.fill(most, 9999);
        Edge e = Edge.ofFaults("promise 14, row", () -> {
            CanalEnd x = Edge.with("w1;m90o99");
            Edge.lay(x, 0, Edge.SHORTS, most);
            return x;
        });
        e.asks("100 HOURS, what came", x -> x.row(0, Edge.SHORTS, 0, 100, 0), 999900);
        e.asks("100 HOURS, what SEEPED", x -> x.row(0, Edge.SHORTS, 0, 100, 1), 89900);
        e.asks("100 HOURS, what was taken", x -> x.row(0, Edge.SHORTS, 0, 100, 2), 910000);
        e.asks("100 HOURS, THE END", x -> x.row(0, Edge.SHORTS, 0, 100, 3), 0);
        e.faulty("101 HOURS", x -> x.row(0, Edge.SHORTS, 0, 101, 0), Edge.INDEX);
    }

    private static void rowWithoutACanal() {
        Edge e = Edge.ofFaults("promise 14, row without a CANAL", Edge::noCanal);
        for (int what = 0; what <= 3; what++) {
            int asked = what;
            e.refused("what " + what, x -> x.row(0, Edge.BYTES, 0, 3, asked), Edge.STATE);
        }
        e.refused("no HOURS", x -> x.row(0, Edge.BYTES, 3, 0, 0), Edge.STATE);
        e.refused("OUTSIDE: a cell is ahead of STATE", x -> x.row(1, Edge.INTS, 0, 1, 0), Edge.OUTSIDE);
        e.refused("OUTSIDE: what is ahead of STATE", x -> x.row(0, Edge.BYTES, 0, 1, 4), Edge.OUTSIDE);
        e.refused("OUTSIDE: what below is ahead of STATE", x -> x.row(0, Edge.BYTES, 0, 1, -1), Edge.OUTSIDE);
        e.refused("UNKNOWN is ahead of STATE", x -> x.row(4, Edge.BYTES, 0, 1, 0), Edge.UNKNOWN);
        e.refused("OUTSIDE: sort is ahead of STATE", x -> x.row(0, 3, 0, 1, 0), Edge.OUTSIDE);
        e.faulty("CAST is ahead of STATE", x -> x.row(0, Edge.INTS, 0, 1, 0), Edge.CAST);
        e.faulty("NULL is ahead of STATE", x -> x.row(2, Edge.INTS, 0, 1, 0), Edge.NULL);
        e.faulty("SIZE is ahead of STATE", x -> x.row(0, Edge.BYTES, 0, -1, 0), Edge.SIZE);
        e.faulty("INDEX is ahead of STATE", x -> x.row(0, Edge.BYTES, 0, 4, 0), Edge.INDEX);
    }

    // ---- promises 15, 16

    private static void reading() {
        Edge e = Edge.of("promise 15, reading", Edge::busy);
        e.bounds("MILE", (x, j) -> x.reading(j, 1, true, 1), 0, 2, Edge.UNKNOWN);
        e.bounds("f", (x, f) -> x.reading(0, f, true, 1), 0, 9999, Edge.OUTSIDE);
        e.bounds("v", (x, v) -> x.reading(0, 1, true, v), 0, 9999, Edge.OUTSIDE);
        e.refused("UNKNOWN is ahead of OUTSIDE: f", x -> x.reading(3, 10000, true, 1), Edge.UNKNOWN);
        e.refused("UNKNOWN is ahead of OUTSIDE: v", x -> x.reading(-1, 1, true, -1), Edge.UNKNOWN);
        e.then("numbered by how many there are ahead", x -> x.reading(0, 1, true, 1), 2, x -> x.many(2), 3);
        e.then("more than there can be never FITS", x -> x.reading(0, 1, true, 9999), 2, CanalEnd::fits, 0);
        Edge.of("promise 15, reading", () -> Edge.with("w5;m00"))
                .then("the first one", x -> x.reading(0, 9999, false, 9999), 0, CanalEnd::fits, 1);
        Edge.of("promise 15, reading", CanalEnd::new)
                .refused("without a CANAL", x -> x.reading(0, 1, true, 1), Edge.UNKNOWN);
    }

    private static void readingFull() {
        CanalEnd ten = Edge.with("w5;m00");
        for (int k = 0; k < 10; k++) {
            Edge.due("promise 15: READING " + k, ten.reading(0, k, false, k), k);
        }
        Edge.due("promise 15: the eleventh", ten.reading(0, 1, false, 1), Edge.FULL);
        Edge e = Edge.of("promise 15, reading, ten there are", Edge::full);
        e.refused("FULL", x -> x.reading(0, 40, false, 30), Edge.FULL);
        e.refused("UNKNOWN is ahead of FULL", x -> x.reading(3, 40, false, 30), Edge.UNKNOWN);
        e.refused("OUTSIDE: f is ahead of FULL", x -> x.reading(0, 10000, false, 30), Edge.OUTSIDE);
        e.refused("OUTSIDE: v is ahead of FULL", x -> x.reading(0, 40, false, -1), Edge.OUTSIDE);
        e.then("FULL no longer", x -> x.back(1), 9, x -> x.reading(0, 40, false, 30), 9);
        e.asks("how many", x -> x.many(2), 10);
    }

    private static void back() {
        Edge e = Edge.of("promise 16, back", Edge::busy);
        e.bounds("k", (x, k) -> x.back(k), 0, 2, Edge.OUTSIDE);
        e.asks("none", x -> x.back(0), 2);
        e.then("one", x -> x.back(1), 1, x -> x.many(2), 1);
        e.then("all", x -> x.back(2), 0, x -> x.many(2), 0);
        Edge full = Edge.of("promise 16, back", Edge::full);
        full.bounds("k of ten", (x, k) -> x.back(k), 0, 10, Edge.OUTSIDE);
        full.then("all ten", x -> x.back(10), 0, CanalEnd::fits, 27);
        Edge none = Edge.of("promise 16, back, no READINGS", CanalEnd::new);
        none.bounds("k", (x, k) -> x.back(k), 0, 0, Edge.OUTSIDE);
        none.asks("none of none", x -> x.back(0), 0);
    }

    private static void backTakesTheLast() {
        Edge last = Edge.of("promise 16, back", Edge::unfit);
        last.then("the last one did not FIT", x -> x.back(1), 2, CanalEnd::fits, 1);
        Edge first = Edge.of("promise 16, back", () -> {
            CanalEnd x = Edge.with(Edge.THREE);
            x.reading(0, 40, false, 29);
            x.reading(0, 40, false, 30);
            return x;
        });
        first.then("the first one did not FIT", x -> x.back(1), 1, CanalEnd::fits, 0);
        first.then("both", x -> x.back(2), 0, CanalEnd::fits, 27);
    }

    // ---- promises 17 to 20

    private static void fits() {
        Edge.of("promise 17, fits", CanalEnd::new).refused("without a CANAL", CanalEnd::fits, Edge.STATE);
        Edge.of("promise 17, fits", Edge::unfit).asks("none", CanalEnd::fits, 0);
        Edge.of("promise 17, fits", Edge::busy).asks("one", CanalEnd::fits, 1);
        Edge.of("promise 17, fits", Edge::full).asks("one, by ten READINGS", CanalEnd::fits, 1);
        Edge.of("promise 17, fits", () -> Edge.with(Edge.THREE)).asks("all of three OUTLETS", CanalEnd::fits, 27);
        Edge.of("promise 17, fits", () -> Edge.with("w5;m00")).asks("the one of no OUTLETS", CanalEnd::fits, 1);
        Edge.of("promise 17, fits", () -> Edge.with("w5;m00o11o11o11o11;m00o11o11o11o11"))
                .asks("all of eight OUTLETS", CanalEnd::fits, 6561);
        Edge tenth = Edge.of("promise 17, fits", Edge::full);
        tenth.then("the tenth READING counts", x -> x.back(1) + x.reading(0, 40, false, 29), 18, CanalEnd::fits, 0);
    }

    private static void sure() {
        Edge e = Edge.of("promise 18, sure", Edge::busy);
        e.bounds("OUTLET", (x, o) -> x.sure(o), 0, 2, Edge.UNKNOWN);
        e.asks("RIGHT", x -> x.sure(0), 0);
        e.asks("NIGHTLY", x -> x.sure(1), 2);
        Edge low = Edge.of("promise 18, sure", () -> {
            CanalEnd x = Edge.with("w99;m01o13o19");
            x.reading(0, 9, true, 8);
            return x;
        });
        low.asks("LOW", x -> x.sure(0), 1);
        low.asks("of two kinds", x -> x.sure(1), Edge.NONE);
        Edge all = Edge.of("promise 18, sure", () -> Edge.with(Edge.THREE));
        all.asks("of all kinds", x -> x.sure(2), Edge.NONE);
        Edge none = Edge.of("promise 18, sure", Edge::unfit);
        none.asks("none FITS", x -> x.sure(0), Edge.NONE);
        none.refused("UNKNOWN, where none FITS", x -> x.sure(3), Edge.UNKNOWN);
        Edge.of("promise 18, sure", CanalEnd::new).refused("without a CANAL", x -> x.sure(0), Edge.UNKNOWN);
    }

    private static void guilt() {
        Edge e = Edge.of("promise 19, guilt", Edge::busy);
        e.bounds("OUTLET", (x, o) -> x.guilt(o, 0), 0, 2, Edge.LOST);
        e.bounds("which", (x, which) -> x.guilt(0, which), 0, 1, Edge.LOST);
        e.refused("UNKNOWN and OUTSIDE", x -> x.guilt(3, 2), Edge.LOST);
        e.asks("none, upper", x -> x.guilt(0, 0), 0);
        e.asks("none, lower, above 0", x -> x.guilt(0, 1), 1);
        e.asks("all, upper", x -> x.guilt(1, 0), 1);
        e.asks("all, lower", x -> x.guilt(1, 1), 1);
        Edge none = Edge.of("promise 19, guilt", Edge::unfit);
        none.refused("none FITS, upper", x -> x.guilt(0, 0), Edge.LOST);
        none.refused("none FITS, lower", x -> x.guilt(0, 1), Edge.LOST);
        Edge all = Edge.of("promise 19, guilt", () -> Edge.with("w5;m00o11o11o11o11o11o11o11o11"));
        all.asks("of 6561, upper, in least terms", x -> x.guilt(7, 0), 2);
        all.asks("of 6561, lower, in least terms", x -> x.guilt(7, 1), 3);
        Edge half = Edge.of("promise 19, guilt", () -> {
            CanalEnd x = Edge.with("w99;m01o13o13");
            x.reading(0, 9, false, 8);
            return x;
        });
        half.asks("how many FIT", CanalEnd::fits, 4);
        half.asks("two of four, upper, in least terms", x -> x.guilt(0, 0), 1);
        half.asks("two of four, lower, in least terms", x -> x.guilt(0, 1), 2);
        Edge.of("promise 19, guilt", CanalEnd::new).refused("without a CANAL", x -> x.guilt(0, 0), Edge.LOST);
    }

    private static void tellsRefused() {
        Edge e = Edge.of("promise 20, tells", Edge::busy);
        e.bounds("f", (x, f) -> x.tells(f, true, 0), 0, 9999, Edge.OUTSIDE);
        e.bounds("what", (x, what) -> x.tells(40, true, what), 0, 1, Edge.OUTSIDE);
        Edge none = Edge.of("promise 20, tells without a CANAL", CanalEnd::new);
        none.refused("the MILE", x -> x.tells(40, false, 0), Edge.STATE);
        none.refused("how many", x -> x.tells(40, false, 1), Edge.STATE);
        none.refused("OUTSIDE: f is ahead of STATE", x -> x.tells(10000, false, 0), Edge.OUTSIDE);
        none.refused("OUTSIDE: what is ahead of STATE", x -> x.tells(40, false, 2), Edge.OUTSIDE);
        Edge unfit = Edge.of("promise 20, tells, none FITS", Edge::unfit);
        unfit.refused("the MILE", x -> x.tells(40, false, 0), Edge.STATE);
        unfit.refused("how many", x -> x.tells(40, false, 1), Edge.STATE);
        unfit.refused("OUTSIDE: f is ahead of STATE", x -> x.tells(-1, false, 0), Edge.OUTSIDE);
        unfit.refused("OUTSIDE: what is ahead of STATE", x -> x.tells(40, false, -1), Edge.OUTSIDE);
    }

    private static void tells() {
        Edge full = Edge.of("promise 20, tells, ten READINGS there are", Edge::full);
        full.asks("the MILE", x -> x.tells(40, true, 0), 0);
        full.asks("how many", x -> x.tells(40, true, 1), 1);
        Edge all = Edge.of("promise 20, tells", () -> Edge.with(Edge.THREE));
        all.asks("no water: all are alike", x -> x.tells(0, true, 1), 27);
        all.asks("no water: of several the least", x -> x.tells(0, true, 0), 0);
        all.asks("at the worst", x -> x.tells(40, false, 1), 8);
        all.asks("the last MILE", x -> x.tells(40, false, 0), 2);
        Edge bare = Edge.of("promise 20, tells", () -> Edge.with("w5" + ";m00".repeat(10)));
        bare.asks("no OUTLETS, how many", x -> x.tells(9999, false, 1), 1);
        bare.asks("no OUTLETS, the MILE", x -> x.tells(9999, false, 0), 0);
        Edge tenth = Edge.of("promise 20, tells", () -> Edge.with("w99" + ";m00".repeat(9) + ";m01o13"));
        tenth.asks("the tenth MILE", x -> x.tells(9, true, 0), 9);
        tenth.asks("the tenth MILE, how many", x -> x.tells(9, true, 1), 1);
        tenth.asks("by day two kinds are alike", x -> x.tells(9, false, 1), 2);
    }
}
