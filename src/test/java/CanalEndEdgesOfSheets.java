import java.util.Arrays;

/** The boundary cases of promises 30 to 40: sheets, parts. */
public final class CanalEndEdgesOfSheets {
    public static void main(String[] args) {
        sheetRefused();
        sheetLengths();
        sheetAnew();
        lose();
        putRefused();
        putCuts();
        cellRefused();
        cells();
        copyRefused();
        copyFaults();
        copyCells();
        copyOverItself();
        tell();
        see();
        as();
        traceWraps();
        traceStays();
        faultOfEachCall();
        faultStays();
        many();
        Edge.end();
    }

    // ---- promises 30, 31

    private static void sheetRefused() {
        Edge e = Edge.ofFaults("promise 30, sheet", Edge::busy);
        e.bounds("SHEET", (x, k) -> x.sheet(k, 0, 1), 0, 3, Edge.UNKNOWN);
        e.bounds("sort", (x, sort) -> x.sheet(0, sort, 1), 0, 2, Edge.OUTSIDE);
        for (int each = 0; each <= 2; each++) {
            int sort = each;
            e.refused("n 101", x -> x.sheet(0, sort, 101), Edge.OUTSIDE);
            e.refused("n as large as can be", x -> x.sheet(0, sort, Edge.MOST), Edge.OUTSIDE);
            e.faulty("n -1", x -> x.sheet(0, sort, -1), Edge.SIZE);
            e.faulty("n far below 0", x -> x.sheet(0, sort, Edge.LEAST), Edge.SIZE);
            e.faulty("n -1, where there is nothing", x -> x.sheet(2, sort, -1), Edge.SIZE);
        }
        e.refused("UNKNOWN is ahead of OUTSIDE: sort", x -> x.sheet(4, 3, 1), Edge.UNKNOWN);
        e.refused("UNKNOWN is ahead of OUTSIDE: n", x -> x.sheet(-1, 0, 101), Edge.UNKNOWN);
        e.refused("UNKNOWN is ahead of SIZE", x -> x.sheet(4, 0, -1), Edge.UNKNOWN);
        e.refused("OUTSIDE: sort is ahead of SIZE", x -> x.sheet(0, 3, -1), Edge.OUTSIDE);
        e.refused("OUTSIDE: sort below is ahead of SIZE", x -> x.sheet(0, -1, -1), Edge.OUTSIDE);
    }

    private static void sheetLengths() {
        for (int k = 0; k <= 3; k++) {
            for (int sort = 0; sort <= 2; sort++) {
                for (int n : new int[] {0, 1, 99, 100}) {
                    int sheet = k;
                    int as = sort;
                    Edge e = Edge.ofFaults("promise 30, sheet " + k + ", sort " + sort + ", n " + n, Edge::busy);
                    Edge.Call make = x -> x.sheet(sheet, as, n);
                    e.then("the last cell", make, 1, x -> x.cell(sheet, n - 1, as), n == 0 ? Edge.LOST : 0);
                    e.then("no cell beyond", make, 1, x -> x.put(sheet, n, 1), -13);
                }
            }
        }
    }

    private static void sheetAnew() {
        Edge e = Edge.ofFaults("promise 30, sheet", Edge::busy);
        e.then("its cells are 0", x -> x.sheet(0, Edge.BYTES, 3), 1, x -> x.cell(0, 2, Edge.BYTES), 0);
        e.then("of another SORT", x -> x.sheet(0, Edge.INTS, 3), 1, x -> x.cell(0, 2, Edge.INTS), 0);
        e.then("no longer of the old SORT", x -> x.sheet(0, Edge.INTS, 3), 1, x -> x.cell(0, 2, Edge.BYTES), Edge.LOST);
        e.then("another SHEET stays", x -> x.sheet(0, Edge.BYTES, 3), 1, x -> x.cell(1, 3, Edge.INTS), -9999);
        e.then("the CANAL stays", x -> x.sheet(3, Edge.BYTES, 0), 1, x -> x.many(1), 3);
        e.then("shorter, then longer: 0 again", x -> x.sheet(0, Edge.BYTES, 1) + x.sheet(0, Edge.BYTES, 3), 2,
                x -> x.cell(0, 1, Edge.BYTES), 0);
        e.then("lost, then new: 0 again", x -> x.lose(0) + x.sheet(0, Edge.BYTES, 3), 2,
                x -> x.cell(0, 1, Edge.BYTES), 0);
        e.then("where there was nothing", x -> x.sheet(2, Edge.SHORTS, 1), 1, x -> x.cell(2, 0, Edge.SHORTS), 0);
    }

    private static void lose() {
        Edge e = Edge.of("promise 31, lose", Edge::busy);
        e.bounds("SHEET", (x, k) -> x.lose(k), 0, 3, Edge.UNKNOWN);
        e.asks("it had nothing", x -> x.lose(2), 0);
        for (int each : new int[] {0, 1, 3}) {
            int k = each;
            e.then("SHEET " + k, x -> x.lose(k), 1, x -> x.lose(k), 0);
            e.then("SHEET " + k + " has nothing then", x -> x.lose(k), 1, x -> x.put(k, 0, 1), -11);
            e.then("SHEET " + k + ": nothing is no CAST", x -> x.lose(k), 1, x -> x.canal(k, 0, 0, 0), -11);
        }
        e.then("the others stay", x -> x.lose(0), 1, x -> x.cell(1, 0, Edge.INTS), 10000);
        e.then("the CANAL stays", x -> x.lose(3), 1, x -> x.many(0), 3);
        Edge empty = Edge.of("promise 31, lose", () -> {
            CanalEnd x = new CanalEnd();
            x.sheet(0, 0, 0);
            return x;
        });
        empty.then("a row of no cells is not nothing", x -> x.lose(0), 1, x -> x.lose(0), 0);
    }

    // ---- promises 32, 33

    private static void putRefused() {
        Edge e = Edge.ofFaults("promise 32, put", Edge::busy);
        e.bounds("SHEET", (x, k) -> x.put(k, 0, 1), 0, 3, Edge.UNKNOWN);
        e.refused("UNKNOWN is ahead of INDEX", x -> x.put(4, -1, 1), Edge.UNKNOWN);
        e.faulty("there is nothing", x -> x.put(2, 0, 1), Edge.NULL);
        e.faulty("NULL is ahead of INDEX", x -> x.put(2, -1, 1), Edge.NULL);
        for (int i : new int[] {-1, 3, Edge.LEAST, Edge.MOST}) {
            e.faulty("i " + i, x -> x.put(0, i, 1), Edge.INDEX);
        }
        e.then("the first cell", x -> x.put(0, 0, 1), 1, x -> x.cell(0, 0, Edge.BYTES), 1);
        e.then("the last cell", x -> x.put(0, 2, 1), 1, x -> x.cell(0, 2, Edge.BYTES), 1);
        e.then("the cell next to it stays", x -> x.put(0, 2, 1), 1, x -> x.cell(0, 1, Edge.BYTES), -40);
        e.then("another SHEET stays", x -> x.put(0, 0, 1), 1, x -> x.cell(1, 0, Edge.INTS), 10000);
        e.then("the CANAL stays", x -> x.put(3, 0, 0), 1, x -> x.many(0), 3);
        Edge empty = Edge.ofFaults("promise 32, put", () -> {
            CanalEnd x = new CanalEnd();
            x.sheet(0, 0, 0);
            return x;
        });
        empty.faulty("a row of no cells", x -> x.put(0, 0, 1), Edge.INDEX);
    }

    private static void putCuts() {
        int[] told = {127, 128, -128, -129, 255, 256, 257, 32767, 32768, -32768, -32769, 65535, 65536, 65537, -1,
            Edge.MOST, Edge.LEAST};
        for (int v : told) {
            long[] due = {v - 256L * Math.floorDiv(v + 128L, 256L), v - 65536L * Math.floorDiv(v + 32768L, 65536L), v};
            for (int each = 0; each <= 2; each++) {
                int sort = each;
                Edge e = Edge.ofFaults("promise 32, put, cut to sort " + sort, () -> {
                    CanalEnd x = new CanalEnd();
                    x.sheet(1, sort, 2);
                    return x;
                });
                e.then("v " + v, x -> x.put(1, 1, v), 1, x -> x.cell(1, 1, sort), due[sort]);
                e.then("v " + v + ", the other cell", x -> x.put(1, 1, v), 1, x -> x.cell(1, 0, sort), 0);
            }
        }
        Edge.due("promise 32: 128 as a byte is told by its sign", cut(Edge.BYTES, 128), -128);
        Edge.due("promise 32: -129 as a byte", cut(Edge.BYTES, -129), 127);
        Edge.due("promise 32: 32768 as a short", cut(Edge.SHORTS, 32768), -32768);
        Edge.due("promise 32: -32769 as a short", cut(Edge.SHORTS, -32769), 32767);
        Edge.due("promise 32: the least int", cut(Edge.INTS, Edge.LEAST), Edge.LEAST);
    }

    private static long cut(int sort, int v) {
        CanalEnd x = new CanalEnd();
        x.sheet(0, sort, 1);
        x.put(0, 0, v);
        return x.cell(0, 0, sort);
    }

    private static void cellRefused() {
        Edge e = Edge.ofFaults("promise 33, cell", Edge::busy);
        for (int k : new int[] {-1, 4, Edge.LEAST, Edge.MOST}) {
            e.refused("SHEET " + k, x -> x.cell(k, 0, 0), Edge.LOST);
            e.refused("UNKNOWN is ahead of INDEX, SHEET " + k, x -> x.cell(k, -1, 0), Edge.LOST);
        }
        for (int sort : new int[] {-1, 3, Edge.LEAST, Edge.MOST}) {
            e.refused("sort " + sort, x -> x.cell(0, 0, sort), Edge.LOST);
            e.refused("OUTSIDE is ahead of NULL, sort " + sort, x -> x.cell(2, 0, sort), Edge.LOST);
            e.refused("OUTSIDE is ahead of INDEX, sort " + sort, x -> x.cell(0, 3, sort), Edge.LOST);
        }
        int[] sorts = {Edge.BYTES, Edge.INTS, -1, Edge.SHORTS};
        for (int each = 0; each <= 3; each++) {
            int k = each;
            for (int as = 0; as <= 2; as++) {
                int sort = as;
                if (k == 2) {
                    e.lost("nothing is no CAST, as " + sort, x -> x.cell(k, 0, sort), Edge.NULL);
                    e.lost("NULL is ahead of INDEX, as " + sort, x -> x.cell(k, -1, sort), Edge.NULL);
                } else if (sorts[k] != sort) {
                    e.lost("SHEET " + k + " as " + sort, x -> x.cell(k, 0, sort), Edge.CAST);
                    e.lost("CAST is ahead of INDEX, SHEET " + k + " as " + sort, x -> x.cell(k, -1, sort), Edge.CAST);
                } else {
                    e.lost("i -1, SHEET " + k, x -> x.cell(k, -1, sort), Edge.INDEX);
                }
            }
        }
        for (int i : new int[] {-1, 3, Edge.LEAST, Edge.MOST}) {
            e.lost("i " + i, x -> x.cell(0, i, Edge.BYTES), Edge.INDEX);
        }
    }

    private static void cells() {
        Edge e = Edge.ofFaults("promise 33, cell", Edge::busy);
        e.asks("the first one", x -> x.cell(0, 0, Edge.BYTES), 40);
        e.asks("below 0", x -> x.cell(0, 1, Edge.BYTES), -40);
        e.asks("the last one", x -> x.cell(0, 2, Edge.BYTES), 127);
        e.asks("the last of ints", x -> x.cell(1, 3, Edge.INTS), -9999);
        e.asks("the last of shorts", x -> x.cell(3, 23, Edge.SHORTS), '1');
        e.lost("none behind it", x -> x.cell(3, 24, Edge.SHORTS), Edge.INDEX);
    }

    // ---- promise 34

    /** SHEETS 0 and 1: five and three ints; 2: nothing; 3: three shorts. */
    private static CanalEnd rows() {
        CanalEnd x = new CanalEnd();
        Edge.lay(x, 0, Edge.INTS, 1, 2, 3, 4, 5);
        Edge.lay(x, 1, Edge.INTS, 10, 20, 30);
        Edge.lay(x, 3, Edge.SHORTS, 7, 8, 9);
        return x;
    }

    private static void copyRefused() {
        Edge e = Edge.ofFaults("promise 34, copy", CanalEndEdgesOfSheets::rows);
        e.bounds("SHEET", (x, k) -> x.copy(k, 0, 1, 0, 1), 0, 3, Edge.UNKNOWN);
        e.bounds("the other one", (x, k) -> x.copy(0, 0, k, 0, 1), 0, 3, Edge.UNKNOWN);
        e.refused("UNKNOWN is ahead of NULL: the other", x -> x.copy(4, 0, 2, 0, 1), Edge.UNKNOWN);
        e.refused("UNKNOWN other is ahead of NULL: the first", x -> x.copy(2, 0, 4, 0, 1), Edge.UNKNOWN);
        e.refused("UNKNOWN is ahead of INDEX", x -> x.copy(0, -1, -1, 0, 1), Edge.UNKNOWN);
    }

    private static void copyFaults() {
        Edge e = Edge.ofFaults("promise 34, copy", CanalEndEdgesOfSheets::rows);
        e.faulty("the first has nothing", x -> x.copy(2, 0, 0, 0, 1), Edge.NULL);
        e.faulty("the other has nothing", x -> x.copy(0, 0, 2, 0, 1), Edge.NULL);
        e.faulty("nothing to itself", x -> x.copy(2, 0, 2, 0, 0), Edge.NULL);
        e.faulty("NULL is ahead of CAST", x -> x.copy(3, 0, 2, 0, 1), Edge.NULL);
        e.faulty("NULL is ahead of INDEX", x -> x.copy(2, -1, 0, 0, 1), Edge.NULL);
        e.faulty("NULL of the other is ahead of INDEX", x -> x.copy(0, -1, 2, 0, 1), Edge.NULL);
        e.faulty("ints to shorts", x -> x.copy(0, 0, 3, 0, 1), Edge.CAST);
        e.faulty("shorts to ints", x -> x.copy(3, 0, 0, 0, 1), Edge.CAST);
        e.faulty("no cells of unlike SORTS", x -> x.copy(3, 0, 0, 0, 0), Edge.CAST);
        e.faulty("CAST is ahead of INDEX", x -> x.copy(0, -1, 3, 0, 1), Edge.CAST);
        int[][] rows = {{-1, 0, 1}, {-1, 0, 0}, {5, 0, 1}, {6, 0, 0}, {3, 0, 3}, {0, -1, 1}, {0, -1, 0}, {0, 3, 1},
            {0, 4, 0}, {0, 1, 3}, {0, 0, 4}, {0, 0, -1}, {5, 3, -1}, {0, 0, Edge.LEAST}, {0, 0, Edge.MOST},
            {1, 1, Edge.MOST}, {Edge.MOST, 0, 0}, {0, Edge.MOST, 0}, {Edge.LEAST, 0, 1}, {0, Edge.LEAST, 1},
            {Edge.MOST, Edge.MOST, Edge.MOST}, {Edge.LEAST, Edge.LEAST, Edge.LEAST}};
        for (int[] row : rows) {
            e.faulty("cells " + Arrays.toString(row), x -> x.copy(0, row[0], 1, row[1], row[2]), Edge.INDEX);
        }
    }

    private static void copyCells() {
        Edge e = Edge.ofFaults("promise 34, copy", CanalEndEdgesOfSheets::rows);
        e.asks("no cells", x -> x.copy(0, 0, 1, 0, 0), 0);
        e.asks("no cells, from the ends on", x -> x.copy(0, 5, 1, 3, 0), 0);
        e.then("the last one to the last", x -> x.copy(0, 4, 1, 2, 1), 1, x -> x.cell(1, 2, Edge.INTS), 5);
        e.then("the cell ahead of it stays", x -> x.copy(0, 4, 1, 2, 1), 1, x -> x.cell(1, 1, Edge.INTS), 20);
        e.then("as many as fit", x -> x.copy(0, 2, 1, 0, 3), 3, x -> x.cell(1, 0, Edge.INTS), 3);
        e.then("the first SHEET stays", x -> x.copy(0, 2, 1, 0, 3), 3, x -> x.cell(0, 0, Edge.INTS), 1);
        e.then("to the larger one", x -> x.copy(1, 0, 0, 2, 3), 3, x -> x.cell(0, 4, Edge.INTS), 30);
        Edge most = Edge.ofFaults("promise 34, copy", () -> {
            CanalEnd x = new CanalEnd();
            x.sheet(0, Edge.BYTES, 100);
            x.sheet(1, Edge.BYTES, 100);
            x.put(0, 99, -128);
            return x;
        });
        most.then("100 cells", x -> x.copy(0, 0, 1, 0, 100), 100, x -> x.cell(1, 99, Edge.BYTES), -128);
        most.faulty("101 cells", x -> x.copy(0, 0, 1, 0, 101), Edge.INDEX);
    }

    private static void copyOverItself() {
        int[][] cases = {{0, 1, 4}, {1, 0, 4}, {0, 2, 3}, {2, 0, 3}, {0, 0, 5}};
        int[][] due = {{1, 1, 2, 3, 4}, {2, 3, 4, 5, 5}, {1, 2, 1, 2, 3}, {3, 4, 5, 4, 5}, {1, 2, 3, 4, 5}};
        for (int c = 0; c < cases.length; c++) {
            int[] of = cases[c];
            CanalEnd x = rows();
            Edge.due("promise 34: to the same SHEET", x.copy(0, of[0], 0, of[1], of[2]), of[2]);
            for (int i = 0; i < 5; i++) {
                String told = "promise 34: cells as they were, " + Arrays.toString(of) + ", cell " + i;
                Edge.due(told, x.cell(0, i, Edge.INTS), due[c][i]);
            }
        }
        Edge e = Edge.ofFaults("promise 34, copy to the same SHEET", CanalEndEdgesOfSheets::rows);
        e.faulty("one too many, up", x -> x.copy(0, 0, 0, 1, 5), Edge.INDEX);
        e.faulty("one too many, down", x -> x.copy(0, 1, 0, 0, 5), Edge.INDEX);
    }

    // ---- promises 35 to 38

    private static void tell() {
        Edge e = Edge.of("promise 35, tell", Edge::busy);
        e.bounds("OUTLET", (x, o) -> x.tell(o), 0, 2, Edge.UNKNOWN);
        int[][] due = {{9, 1}, {109, 2 * 31 + 1}, {118, ((3 * 31 + 2) * 31 + 1) * 31 + 1}};
        for (int each = 0; each <= 2; each++) {
            int kind = each;
            Edge.of("promise 35, tell", () -> kindOf("w5;m00o99", kind))
                    .then("SIZE 9, kind " + kind, x -> x.tell(0), due[kind][0], CanalEnd::trace, due[kind][1]);
            Edge.of("promise 35, tell", () -> kindOf("w5;m00o10", kind))
                    .does("SIZE 1, kind " + kind, x -> x.tell(0), due[kind][0] - (kind == 2 ? 16 : 8));
        }
        Edge.of("promise 35, tell", CanalEnd::new).refused("without a CANAL", x -> x.tell(0), Edge.UNKNOWN);
    }

    private static CanalEnd kindOf(String text, int kind) {
        CanalEnd x = Edge.with(text);
        x.kind(0, kind);
        return x;
    }

    private static void see() {
        Edge e = Edge.of("promise 36, see", Edge::busy);
        e.bounds("OUTLET", (x, o) -> x.see(o), 0, 2, Edge.UNKNOWN);
        int[] due = {4, 4, 5};
        for (int each = 0; each <= 2; each++) {
            int kind = each;
            Edge.of("promise 36, see", () -> kindOf("w5;m00o99", kind))
                    .then("kind " + kind, x -> x.see(0), kind == 2 ? 40 : 0, CanalEnd::trace, due[kind]);
        }
        Edge.of("promise 36, see", CanalEnd::new).refused("without a CANAL", x -> x.see(0), Edge.UNKNOWN);
    }

    private static void as() {
        Edge e = Edge.ofFaults("promise 37, as", Edge::busy);
        e.bounds("OUTLET", (x, o) -> x.as(o, 0), 0, 2, Edge.UNKNOWN);
        e.bounds("kind", (x, kind) -> x.as(1, kind), 0, 2, Edge.OUTSIDE);
        e.refused("UNKNOWN is ahead of OUTSIDE", x -> x.as(3, 3), Edge.UNKNOWN);
        e.refused("UNKNOWN is ahead of CAST", x -> x.as(3, 2), Edge.UNKNOWN);
        e.refused("OUTSIDE is ahead of CAST", x -> x.as(0, 3), Edge.OUTSIDE);
        e.refused("OUTSIDE below", x -> x.as(0, -1), Edge.OUTSIDE);
        for (int each = 0; each <= 2; each++) {
            int kind = each;
            Edge one = Edge.ofFaults("promise 37, as, kind " + kind, () -> kindOf("w5;m00o99", kind));
            for (int asked = 0; asked <= 2; asked++) {
                int as = asked;
                if (as <= kind) {
                    one.asks("taken as " + as, x -> x.as(0, as), 1);
                } else {
                    one.faulty("taken as " + as, x -> x.as(0, as), Edge.CAST);
                }
            }
        }
        Edge.ofFaults("promise 37, as", CanalEnd::new).refused("without a CANAL", x -> x.as(0, 0), Edge.UNKNOWN);
    }

    private static void traceWraps() {
        CanalEnd x = kindOf("w5;m00o99", 0);
        long whole = 0;
        int wraps = 0;
        for (int k = 0; k < 100; k++) {
            x.tell(0);
            whole = 31 * whole + 1;
            if (whole > Edge.MOST || whole < Edge.LEAST) {
                // what is beyond an int comes in again on its other side
                wraps++;
                whole = Math.floorMod(whole + (1L << 31), 1L << 32) - (1L << 31);
            }
            Edge.due("promise 38: TRACE behind " + (k + 1) + " bodies", x.trace(), whole);
        }
        Edge.due("promise 38: it did wrap", wraps > 9 ? 1 : 0, 1);
        CanalEnd y = kindOf("w5;m00o99", 2);
        int trace = 0;
        for (int k = 0; k < 20; k++) {
            y.see(0);
            trace = 31 * trace + 5;
        }
        Edge.due("promise 38: TRACE behind twenty bodies (5)", y.trace(), trace);
    }

    private static void traceStays() {
        Edge e = Edge.of("promise 38, trace", Edge::busy);
        int trace = Edge.busy().trace();
        e.asks("changes nothing", CanalEnd::trace, trace);
        e.then("stays as a SHEET is lost", x -> x.lose(0), 1, CanalEnd::trace, trace);
        e.then("stays as a kind changes", x -> x.kind(0, 2), 0, CanalEnd::trace, trace);
        Edge.ofFaults("promise 38, trace", Edge::busy)
                .then("stays as an OUTLET is taken as of a kind", x -> x.as(1, 1), 1, CanalEnd::trace, trace);
    }

    // ---- promises 39, 40

    /** A call that names FAULTS tells 0 when it comes to none; Edge leaves another one ahead of it. */
    private static void faultOfEachCall() {
        Edge e = Edge.ofFaults("promise 39, fault, the call came to none", Edge::busy);
        e.does("canal", x -> x.canal(3, Edge.SHORTS, 0, 24), 3);
        e.does("canal, with a FIRST FAULT", x -> x.canal(3, Edge.SHORTS, 0, 23), -123);
        e.does("row", x -> x.row(0, Edge.BYTES, 0, 1, 0), 40);
        e.does("sheet", x -> x.sheet(0, Edge.BYTES, 0), 1);
        e.does("put", x -> x.put(0, 0, 0), 1);
        e.does("cell", x -> x.cell(0, 0, Edge.BYTES), 40);
        e.does("copy", x -> x.copy(0, 0, 0, 0, 0), 0);
        e.does("as", x -> x.as(0, 0), 1);
        Edge latest = Edge.ofFaults("promise 39, fault", Edge::busy);
        latest.faulty("of the latest call, not of the first", x -> x.put(2, 0, 0) * 0 + x.put(0, 9, 0), Edge.INDEX);
        latest.refused("a refused call tells 0", x -> x.put(2, 0, 0) * 0 + x.put(9, 0, 0), Edge.UNKNOWN);
    }

    /** Calls that name no FAULTS leave it, whether they are refused or not. */
    private static void faultStays() {
        Edge e = Edge.of("promise 39, fault stays", Edge::busy);
        Edge.Call[] calls = {x -> x.ofMile(0, 0), x -> x.turn(0, 0, 0), x -> x.ofOutlet(0, 2), x -> x.kind(1, 0),
            x -> x.needs(0, 0), x -> x.guard(0, true), x -> x.syphon(0), x -> x.behind(0, 40, false),
            x -> x.seeps(0, 40, false), x -> x.level(0, 40, false), x -> x.takes(0, 40, false),
            x -> x.reading(0, 1, true, 1), x -> x.back(0), CanalEnd::fits, x -> x.sure(1), x -> x.guilt(1, 0),
            x -> x.tells(40, false, 1), x -> x.settle(40), x -> x.brings(0, 0, 40), x -> x.best(40),
            x -> x.gains(0, 1, 40), x -> x.holds(1, 0, 1, 1, 40), x -> x.digs(1, 1, 1, 40, 0), x -> x.even(40, 0),
            x -> x.tempts(0, 40), x -> x.kept(1, 9, 40), x -> x.lose(0), x -> x.tell(0), x -> x.see(1),
            CanalEnd::trace, CanalEnd::fault, x -> x.many(0), x -> x.many(5), x -> x.lose(4), x -> x.syphon(100)};
        for (int c = 0; c < calls.length; c++) {
            Edge.Call call = calls[c];
            CanalEnd same = Edge.busy();
            same.sheet(0, 0, -1);
            e.does("call " + c, call, call.on(same));
        }
    }

    private static void many() {
        Edge e = Edge.of("promise 40, many", Edge::busy);
        e.bounds("what", (x, what) -> x.many(what), 0, 4, Edge.OUTSIDE);
        int[] due = {3, 3, 2, 1, 1};
        for (int each = 0; each <= 4; each++) {
            int what = each;
            e.asks("what " + what, x -> x.many(what), due[what]);
        }
        Edge none = Edge.of("promise 40, many without a CANAL", CanalEnd::new);
        none.bounds("what", (x, what) -> x.many(what), 0, 4, Edge.OUTSIDE);
        Edge most = Edge.of("promise 40, many", () -> {
            CanalEnd x = Edge.with("w5;m00o10o10o10o10o10o10o10o10" + ";m00".repeat(9));
            for (int o = 0; o < 8; o++) {
                x.kind(o, 1 + o % 2);
                x.guard(o, true);
            }
            for (int k = 0; k < 10; k++) {
                x.reading(0, 0, false, 0);
            }
            return x;
        });
        int[] all = {10, 8, 10, 8, 8};
        for (int each = 0; each <= 4; each++) {
            int what = each;
            most.asks("the most, what " + what, x -> x.many(what), all[what]);
        }
    }
}
