import java.util.function.Supplier;

/** The boundary cases of promises 21 to 29: people, things, digging, heights, guards. */
public final class CanalEndEdgesOfPeople {
    /** Of 9 the OUTLET takes 0 as RIGHT, 1 as LOW, 6 by night as NIGHTLY: 0, 2, 7 of a DAY. */
    private static final String ONE = "w99;m01o13";
    /** Of 198 the first OUTLET leaves 0, 18 if MILE 0 is dug: 1 for each of the others then. */
    private static final String DUG = "w99;m09o90;m00o10o10";
    /** Each takes nothing of 30, but 5 by a syphon. */
    private static final String TEMPTED = "w99;m00o19o19o19o19";

    public static void main(String[] args) {
        settleRefused();
        settleByNeeds();
        settleKeeps();
        bringsRefused();
        brings();
        best();
        bestOfSeveral();
        gains();
        holdsRefused();
        holds();
        digsRefused();
        digs();
        evenRefused();
        evenNone();
        even();
        tempts();
        keptRefused();
        kept();
        keptByOdds();
        Edge.end();
    }

    private static Supplier<CanalEnd> one(int kind, int needs, boolean guarded) {
        return () -> {
            CanalEnd x = Edge.with(ONE);
            x.kind(0, kind);
            x.needs(0, needs);
            x.guard(0, guarded);
            return x;
        };
    }

    // ---- promise 21

    private static void settleRefused() {
        Edge e = Edge.of("promise 21, settle", Edge::busy);
        e.bounds("f", (x, f) -> x.settle(f), 0, 9999, Edge.OUTSIDE);
        Edge none = Edge.of("promise 21, settle without a CANAL", CanalEnd::new);
        none.refused("STATE", x -> x.settle(9), Edge.STATE);
        none.refused("OUTSIDE is ahead of STATE", x -> x.settle(10000), Edge.OUTSIDE);
        none.refused("OUTSIDE below is ahead of STATE", x -> x.settle(-1), Edge.OUTSIDE);
        Edge.of("promise 21, settle", () -> Edge.with("w5;m00")).asks("no OUTLETS", x -> x.settle(9), 0);
    }

    private static void settleByNeeds() {
        int[][] rows = {{0, 0, 0}, {1, 1, 1}, {2, 1, 1}, {3, 2, 2}, {7, 2, 2}, {8, 2, 2}, {999, 2, 2}};
        for (int[] row : rows) {
            Edge.of("promise 21, settle, NEEDS " + row[0], one(0, row[0], false))
                    .then("RIGHT", x -> x.settle(9), row[1], x -> x.ofOutlet(0, 0), row[2]);
        }
        Edge low = Edge.of("promise 21, settle, LOW", one(1, 2, false));
        low.asks("gets just what it NEEDS", x -> x.settle(9), 0);
        Edge less = Edge.of("promise 21, settle, LOW", one(1, 3, false));
        less.then("gets one less", x -> x.settle(9), 1, x -> x.ofOutlet(0, 0), 2);
        Edge.of("promise 21, settle, RIGHT", one(0, 999, false)).does("no water", x -> x.settle(0), 2);
        Edge.of("promise 21, settle, RIGHT", one(0, 0, false)).asks("no water, NEEDS 0", x -> x.settle(0), 0);
    }

    private static void settleKeeps() {
        for (int kind = 0; kind <= 2; kind++) {
            Edge.of("promise 21, settle, GUARDED", one(kind, 999, true)).asks("kind " + kind, x -> x.settle(9), 0);
        }
        Edge.of("promise 21, settle", one(2, 999, false)).asks("NIGHTLY stays", x -> x.settle(9), 0);
        Edge next = Edge.of("promise 21, settle", () -> {
            // as soon as the first one takes more, the second one gets too little
            CanalEnd x = Edge.with("w99;m01o13o10");
            x.needs(0, 1);
            x.needs(1, 2);
            return x;
        });
        next.then("those that follow", x -> x.settle(1), 3, x -> x.ofOutlet(1, 0), 2);
        next.then("the first one has enough", x -> x.settle(1), 3, x -> x.ofOutlet(0, 0), 1);
        next.then("nobody changes any more", x -> x.settle(1), 3, x -> x.settle(1), 0);
        Edge eight = Edge.of("promise 21, settle", () -> {
            CanalEnd x = Edge.with("w5;m00o10o10o10o10o10o10o10o10");
            for (int o = 0; o < 8; o++) {
                x.needs(o, 999);
            }
            return x;
        });
        eight.then("all eight, twice", x -> x.settle(0), 16, x -> x.many(3), 8);
    }

    // ---- promises 22, 23

    private static void bringsRefused() {
        Edge e = Edge.of("promise 22, brings", Edge::busy);
        e.bounds("sort", (x, sort) -> x.brings(sort, 0, 40), 0, 2, Edge.UNKNOWN);
        for (int each = 0; each <= 2; each++) {
            int sort = each;
            e.bounds("f, sort " + sort + ",", (x, f) -> x.brings(sort, 0, f), 0, 9999, Edge.OUTSIDE);
            e.refused("UNKNOWN k is ahead of OUTSIDE", x -> x.brings(sort, 3, 10000), Edge.UNKNOWN);
            e.refused("UNKNOWN k below is ahead of OUTSIDE", x -> x.brings(sort, -1, -1), Edge.UNKNOWN);
            Edge.of("promise 22, brings", CanalEnd::new)
                    .refused("without a CANAL", x -> x.brings(sort, 0, 40), Edge.UNKNOWN);
        }
        e.refused("UNKNOWN sort is ahead of OUTSIDE", x -> x.brings(3, 0, 10000), Edge.UNKNOWN);
        Edge uneven = Edge.of("promise 22, brings", () -> Edge.with("w99;m52o23o14o11;m03"));
        uneven.bounds("OUTLET", (x, k) -> x.brings(0, k, 40), 0, 2, Edge.UNKNOWN);
        uneven.bounds("MILE to DIG", (x, k) -> x.brings(1, k, 40), 0, 1, Edge.UNKNOWN);
        uneven.bounds("MILE to LINE", (x, k) -> x.brings(2, k, 40), 0, 1, Edge.UNKNOWN);
        Edge.of("promise 22, brings", () -> Edge.with("w5;m00"))
                .refused("no OUTLET to MEND", x -> x.brings(0, 0, 40), Edge.UNKNOWN);
    }

    private static void brings() {
        Edge e = Edge.of("promise 22, brings", one(2, 999, false));
        e.asks("MEND: RIGHT, and GUARDED ahead of settling", x -> x.brings(0, 0, 9), 18);
        e.asks("DIG: the syphon alone is left", x -> x.brings(1, 0, 9), 13);
        e.asks("LINE, where nothing SEEPS", x -> x.brings(2, 0, 9), 11);
        e.asks("no water", x -> x.brings(0, 0, 0), 0);
        Edge right = Edge.of("promise 22, brings", one(0, 3, false));
        right.asks("PEOPLE settle then", x -> x.brings(2, 0, 9), 11);
        Edge content = Edge.of("promise 22, brings", one(0, 0, false));
        content.asks("nobody NEEDS anything", x -> x.brings(2, 0, 9), 18);
        Edge seep = Edge.of("promise 22, brings", () -> Edge.with("w1;m90;m90"));
        seep.asks("LINE the last MILE", x -> x.brings(2, 1, 9999), 2 * 9100);
        seep.asks("DIG where there is no SILT", x -> x.brings(1, 1, 9999), 2 * 8281);
    }

    private static void best() {
        Edge e = Edge.of("promise 23, best", Edge::busy);
        e.bounds("f", (x, f) -> x.best(f), 0, 9999, Edge.OUTSIDE);
        Edge none = Edge.of("promise 23, best without a CANAL", CanalEnd::new);
        none.refused("STATE", x -> x.best(9), Edge.STATE);
        none.refused("OUTSIDE is ahead of STATE", x -> x.best(10000), Edge.OUTSIDE);
        none.refused("OUTSIDE below is ahead of STATE", x -> x.best(-1), Edge.OUTSIDE);
        Edge.of("promise 23, best", one(2, 999, false)).asks("MEND", x -> x.best(9), 0);
        Edge.of("promise 23, best", () -> Edge.with(Edge.THREE)).asks("DIG the last MILE", x -> x.best(40), 102);
        Edge.of("promise 23, best", () -> Edge.with("w5" + ";m00".repeat(9) + ";m90"))
                .asks("LINE the tenth MILE", x -> x.best(9999), 209);
        Edge.of("promise 23, best", () -> {
            CanalEnd x = Edge.with("w99;m00o19o19o19o19o19o19o19o19");
            x.kind(7, 2);
            return x;
        }).asks("MEND the eighth OUTLET", x -> x.best(30), 7);
    }

    private static void bestOfSeveral() {
        Edge.of("promise 23, best, of several", () -> Edge.with(Edge.THREE))
                .asks("no water: the first of sort 0", x -> x.best(0), 0);
        Edge.of("promise 23, best, of several", () -> Edge.with("w5;m00;m00"))
                .asks("no OUTLETS: the first of sort 1", x -> x.best(9), 100);
        Edge.of("promise 23, best, of several", () -> Edge.with("w5;m90;m90"))
                .asks("the first MILE to LINE", x -> x.best(100), 200);
        Edge sorts = Edge.of("promise 23, best, of several", () -> {
            CanalEnd x = Edge.with("w99;m02o19o15");
            x.kind(1, 1);
            return x;
        });
        sorts.asks("nothing is taken anyhow", x -> x.brings(1, 0, 9), 18);
        sorts.asks("the first by sort and number", x -> x.best(9), 0);
        // MEND the second OUTLET brings as much as DIG the MILE would
        Edge two = Edge.of("promise 23, best, of several", () -> {
            CanalEnd x = Edge.with("w99;m03o15o15");
            x.kind(1, 1);
            return x;
        });
        two.asks("MEND brings it", x -> x.brings(0, 1, 9), 18);
        two.asks("DIG brings it too", x -> x.brings(1, 0, 9), 18);
        two.asks("the first by sort", x -> x.best(9), 1);
    }

    // ---- promises 24 to 26

    private static void gains() {
        Edge e = Edge.of("promise 24, gains", Edge::busy);
        e.bounds("MILE", (x, j) -> x.gains(j, 0, 60), 0, 2, Edge.LOST);
        e.bounds("OUTLET", (x, o) -> x.gains(0, o, 60), 0, 2, Edge.LOST);
        e.bounds("f", (x, f) -> x.gains(0, 0, f), 0, 9999, Edge.LOST);
        e.refused("UNKNOWN and OUTSIDE", x -> x.gains(3, 3, 10000), Edge.LOST);
        Edge uneven = Edge.of("promise 24, gains", () -> Edge.with("w99;m52o23o14o11;m03"));
        uneven.bounds("MILE of two", (x, j) -> x.gains(j, 0, 60), 0, 1, Edge.LOST);
        uneven.bounds("OUTLET of three", (x, o) -> x.gains(0, o, 60), 0, 2, Edge.LOST);
        Edge dug = Edge.of("promise 24, gains", () -> Edge.with(DUG));
        dug.asks("below 0: less", x -> x.gains(0, 0, 198), -36);
        dug.asks("more", x -> x.gains(0, 2, 198), 2);
        dug.asks("no water", x -> x.gains(0, 2, 0), 0);
        dug.asks("a MILE without SILT", x -> x.gains(1, 2, 198), 0);
        dug.asks("a MILE behind it", x -> x.gains(1, 0, 198), 0);
        Edge.of("promise 24, gains", CanalEnd::new).refused("without a CANAL", x -> x.gains(0, 0, 9), Edge.LOST);
    }

    private static void holdsRefused() {
        Edge e = Edge.of("promise 25, holds", Edge::busy);
        e.bounds("MILE", (x, j) -> x.holds(j, 0, 1, 1, 60), 0, 2, Edge.UNKNOWN);
        e.bounds("set", (x, set) -> x.holds(0, set, 1, 1, 60), 0, 7, Edge.OUTSIDE);
        for (int bit = 3; bit < 32; bit++) {
            int set = 1 << bit;
            e.refused("a bit of none, " + bit, x -> x.holds(0, set, 1, 1, 60), Edge.OUTSIDE);
            e.refused("a bit of none among others, " + bit, x -> x.holds(0, set | 7, 1, 1, 60), Edge.OUTSIDE);
        }
        e.bounds("d", (x, d) -> x.holds(0, 0, d, 1, 60), 1, 8, Edge.OUTSIDE);
        e.bounds("c", (x, c) -> x.holds(0, 0, 1, c, 60), 0, 999, Edge.OUTSIDE);
        e.bounds("f", (x, f) -> x.holds(0, 0, 1, 1, f), 0, 9999, Edge.OUTSIDE);
        e.refused("UNKNOWN is ahead of OUTSIDE: set", x -> x.holds(3, 8, 1, 1, 60), Edge.UNKNOWN);
        e.refused("UNKNOWN is ahead of OUTSIDE: d", x -> x.holds(-1, 0, 0, 1, 60), Edge.UNKNOWN);
        e.refused("UNKNOWN is ahead of OUTSIDE: c", x -> x.holds(3, 0, 1, 1000, 60), Edge.UNKNOWN);
        e.refused("UNKNOWN is ahead of OUTSIDE: f", x -> x.holds(3, 0, 1, 1, 10000), Edge.UNKNOWN);
        Edge eight = Edge.of("promise 25, holds", () -> Edge.with("w5;m00o10o10o10o10o10o10o10o10"));
        eight.bounds("set of eight", (x, set) -> x.holds(0, set, 8, 0, 60), 0, 255, Edge.OUTSIDE);
        Edge bare = Edge.of("promise 25, holds", () -> Edge.with("w5;m09"));
        bare.bounds("set of no OUTLETS", (x, set) -> x.holds(0, set, 1, 1, 60), 0, 0, Edge.OUTSIDE);
        bare.asks("the set of none", x -> x.holds(0, 0, 1, 1, 60), 1);
        Edge.of("promise 25, holds", CanalEnd::new)
                .refused("without a CANAL", x -> x.holds(0, 0, 1, 1, 60), Edge.UNKNOWN);
    }

    private static void holds() {
        Edge e = Edge.of("promise 25, holds", () -> Edge.with(DUG));
        e.asks("one would have more, if it came", x -> x.holds(0, 0, 1, 1, 198), 0);
        e.asks("as much, if it came", x -> x.holds(0, 0, 1, 2, 198), 1);
        e.asks("less, if it came", x -> x.holds(0, 0, 1, 3, 198), 1);
        e.asks("less, if it stayed away", x -> x.holds(0, 2, 1, 1, 198), 1);
        e.asks("as much, if it stayed away", x -> x.holds(0, 2, 1, 2, 198), 1);
        e.asks("more, if it stayed away", x -> x.holds(0, 2, 1, 3, 198), 0);
        e.asks("one too many, who pays", x -> x.holds(0, 6, 1, 1, 198), 0);
        e.asks("one too many, who pays nothing", x -> x.holds(0, 6, 1, 0, 198), 1);
        e.asks("just enough come", x -> x.holds(0, 6, 2, 1, 198), 1);
        e.asks("one too few comes, and pays", x -> x.holds(0, 2, 2, 1, 198), 0);
        e.asks("one too few comes, another would", x -> x.holds(0, 2, 2, 0, 198), 0);
        e.asks("who loses by it comes", x -> x.holds(0, 1, 1, 0, 198), 0);
        e.asks("who loses by it comes, where others dig", x -> x.holds(0, 3, 1, 0, 198), 1);
        e.asks("d is more than there are OUTLETS", x -> x.holds(0, 7, 8, 0, 198), 1);
        e.asks("d is more than there are OUTLETS, and they pay", x -> x.holds(0, 7, 8, 1, 198), 0);
    }

    private static void digsRefused() {
        Edge e = Edge.of("promise 26, digs", Edge::busy);
        e.bounds("MILE", (x, j) -> x.digs(j, 1, 1, 60, 0), 0, 2, Edge.UNKNOWN);
        e.bounds("d", (x, d) -> x.digs(0, d, 1, 60, 0), 1, 8, Edge.OUTSIDE);
        e.bounds("c", (x, c) -> x.digs(0, 1, c, 60, 0), 0, 999, Edge.OUTSIDE);
        e.bounds("f", (x, f) -> x.digs(0, 1, 1, f, 0), 0, 9999, Edge.OUTSIDE);
        e.bounds("what", (x, what) -> x.digs(0, 1, 1, 60, what), 0, 1, Edge.OUTSIDE);
        e.refused("UNKNOWN is ahead of OUTSIDE: d", x -> x.digs(3, 0, 1, 60, 0), Edge.UNKNOWN);
        e.refused("UNKNOWN is ahead of OUTSIDE: c", x -> x.digs(-1, 1, -1, 60, 0), Edge.UNKNOWN);
        e.refused("UNKNOWN is ahead of OUTSIDE: f", x -> x.digs(3, 1, 1, -1, 0), Edge.UNKNOWN);
        e.refused("UNKNOWN is ahead of OUTSIDE: what", x -> x.digs(3, 1, 1, 60, 2), Edge.UNKNOWN);
        Edge.of("promise 26, digs", CanalEnd::new)
                .refused("without a CANAL", x -> x.digs(0, 1, 1, 60, 0), Edge.UNKNOWN);
    }

    private static void digs() {
        Edge e = Edge.of("promise 26, digs", () -> Edge.with(DUG));
        // d, c, how many HOLD, MOST
        int[][] rows = {{1, 0, 6, 7}, {1, 1, 2, 2}, {1, 2, 3, 2}, {1, 3, 1, 0}, {1, 999, 1, 0}, {2, 1, 2, 6},
            {2, 2, 2, 6}, {2, 3, 1, 0}, {4, 0, 8, 7}, {8, 0, 8, 7}, {8, 1, 1, 0}};
        for (int[] row : rows) {
            String told = "d " + row[0] + ", c " + row[1];
            e.asks(told + ", how many", x -> x.digs(0, row[0], row[1], 198, 0), row[2]);
            e.asks(told + ", MOST", x -> x.digs(0, row[0], row[1], 198, 1), row[3]);
        }
        Edge bare = Edge.of("promise 26, digs", () -> Edge.with("w5;m09"));
        bare.asks("no OUTLETS, how many", x -> x.digs(0, 1, 0, 60, 0), 1);
        bare.asks("no OUTLETS, MOST", x -> x.digs(0, 1, 0, 60, 1), 0);
        Edge eight = Edge.of("promise 26, digs", () -> Edge.with("w5;m00o10o10o10o10o10o10o10o10"));
        eight.asks("eight OUTLETS, how many", x -> x.digs(0, 8, 0, 60, 0), 256);
        eight.asks("eight OUTLETS, MOST", x -> x.digs(0, 8, 0, 60, 1), 255);
    }

    // ---- promise 27

    private static void evenRefused() {
        String two = "w10;m00o10o10";
        Edge e = Edge.of("promise 27, even", () -> Edge.with(two));
        e.bounds("k", (x, k) -> x.even(10, k), -1, 3, Edge.UNKNOWN);
        e.bounds("f", (x, f) -> x.even(f, 0), 0, 9999, Edge.OUTSIDE);
        e.refused("UNKNOWN is ahead of OUTSIDE", x -> x.even(10000, 4), Edge.UNKNOWN);
        e.refused("UNKNOWN below is ahead of OUTSIDE", x -> x.even(-1, -2), Edge.UNKNOWN);
        e.refused("OUTSIDE is ahead of NONE", x -> x.even(10000, 3), Edge.OUTSIDE);
        for (String text : new String[] {"w5;m00", "w5;m00o11o11o11o11o11", "w5;m00o11o11o11o11o11o11o11o11"}) {
            evenState(() -> Edge.with(text), "of '" + text + "'");
        }
        evenState(CanalEnd::new, "without a CANAL");
    }

    private static void evenState(Supplier<CanalEnd> start, String told) {
        Edge e = Edge.of("promise 27, even " + told, start);
        for (int each = -1; each <= 3; each++) {
            int k = each;
            e.refused("not 1 to 4 OUTLETS, k " + k, x -> x.even(10, k), Edge.STATE);
        }
        e.refused("UNKNOWN is ahead of STATE", x -> x.even(10, 4), Edge.UNKNOWN);
        e.refused("UNKNOWN below is ahead of STATE", x -> x.even(10, -2), Edge.UNKNOWN);
        e.refused("OUTSIDE is ahead of STATE", x -> x.even(10000, 0), Edge.OUTSIDE);
    }

    private static void evenNone() {
        String[] outlets = {"o13", "o13o13", "o13o13o13", "o13o13o13o13"};
        for (int many = 1; many <= 4; many++) {
            String text = "w99;m00" + outlets[many - 1];
            Edge e = Edge.of("promise 27, even, " + many + " OUTLETS", () -> Edge.with(text));
            for (int each = 0; each <= 3; each++) {
                int k = each;
                e.asks("no water, HEIGHT of " + k, x -> x.even(0, k), k < many ? 0 : Edge.NONE);
            }
            e.asks("no water, the most less the least", x -> x.even(0, -1), 0);
        }
    }

    private static void even() {
        Edge alike = Edge.of("promise 27, even", () -> {
            CanalEnd x = Edge.with("w10;m00o10o19");
            x.kind(0, 2);
            x.kind(1, 1);
            return x;
        });
        alike.asks("all RIGHT, by day: alike", x -> x.even(10, -1), 0);
        alike.asks("of several rows the first, OUTLET 0", x -> x.even(10, 0), 5);
        alike.asks("of several rows the first, OUTLET 1", x -> x.even(10, 1), 0);
        Edge high = Edge.of("promise 27, even", () -> Edge.with("w10;m00o90o10"));
        high.asks("the most less the least", x -> x.even(10, -1), 8);
        high.asks("HEIGHT 9, the most", x -> x.even(10, 0), 9);
        high.asks("HEIGHT 0, the least", x -> x.even(10, 1), 0);
        Edge one = Edge.of("promise 27, even", () -> Edge.with("w1;m00o99"));
        one.asks("one OUTLET", x -> x.even(9999, -1), 0);
        one.asks("one OUTLET, HEIGHT", x -> x.even(9999, 0), 0);
        Edge four = Edge.of("promise 27, even", () -> Edge.with("w1;m00o90o10;m00o10o10"));
        four.asks("no HEIGHT helps: one takes all", x -> x.even(9999, -1), 9999);
        four.asks("no HEIGHT helps, the fourth one", x -> x.even(9999, 3), 0);
        Edge again = Edge.of("promise 27, even", () -> {
            CanalEnd x = Edge.with("w80;m00o90o10");
            Edge.due("promise 27: both take nothing, OUTLET 0", x.even(8, 0), 1);
            Edge.due("promise 27: both take nothing, OUTLET 1", x.even(8, 1), 1);
            return x;
        });
        again.asks("the most less the least, the most there is", x -> x.even(9999, -1), 9999);
        again.asks("the first row, whatever was found ahead of it", x -> x.even(9999, 0), 0);
    }

    // ---- promises 28, 29

    private static void tempts() {
        Edge e = Edge.of("promise 28, tempts", Edge::busy);
        e.bounds("OUTLET", (x, o) -> x.tempts(o, 40), 0, 2, Edge.UNKNOWN);
        e.bounds("f", (x, f) -> x.tempts(0, f), 0, 9999, Edge.OUTSIDE);
        e.refused("UNKNOWN is ahead of OUTSIDE", x -> x.tempts(3, 10000), Edge.UNKNOWN);
        e.refused("UNKNOWN below is ahead of OUTSIDE", x -> x.tempts(-1, -1), Edge.UNKNOWN);
        e.refused("OUTSIDE, of one that is not RIGHT", x -> x.tempts(1, 10000), Edge.OUTSIDE);
        Edge.of("promise 28, tempts", CanalEnd::new).refused("without a CANAL", x -> x.tempts(0, 9), Edge.UNKNOWN);
        int[] due = {6, 0, 0};
        for (int kind = 0; kind <= 2; kind++) {
            Edge.of("promise 28, tempts", one(kind, 0, false)).asks("kind " + kind, x -> x.tempts(0, 9), due[kind]);
        }
        Edge right = Edge.of("promise 28, tempts", one(0, 0, false));
        right.asks("no water", x -> x.tempts(0, 0), 0);
        right.asks("no more than there is", x -> x.tempts(0, 2), 2);
        Edge others = Edge.of("promise 28, tempts", () -> {
            // by night the first one leaves 25 of 30, by day all of it
            CanalEnd x = Edge.with("w99;m00o19;m02o13");
            x.kind(0, 2);
            return x;
        });
        others.asks("by night, others as they are", x -> x.tempts(1, 30), 8);
        Edge all = Edge.of("promise 28, tempts", () -> Edge.with("w1;m00o90o10"));
        all.asks("it takes all as it is", x -> x.tempts(0, 9999), 0);
        all.asks("nothing is left for it", x -> x.tempts(1, 9999), 0);
    }

    private static void keptRefused() {
        Edge e = Edge.of("promise 29, kept", Edge::busy);
        e.bounds("g", (x, g) -> x.kept(g, 9, 40), 1, 3, Edge.OUTSIDE);
        e.bounds("FINE", (x, fine) -> x.kept(1, fine, 40), 1, 99, Edge.OUTSIDE);
        e.bounds("f", (x, f) -> x.kept(1, 9, f), 0, 9999, Edge.OUTSIDE);
        Edge none = Edge.of("promise 29, kept without a CANAL", CanalEnd::new);
        none.asks("no set", x -> x.kept(1, 9, 40), 0);
        none.refused("g", x -> x.kept(4, 9, 40), Edge.OUTSIDE);
        none.refused("FINE", x -> x.kept(1, 0, 40), Edge.OUTSIDE);
        none.refused("f", x -> x.kept(1, 9, 10000), Edge.OUTSIDE);
        Edge.of("promise 29, kept", () -> Edge.with("w5;m00")).asks("no OUTLETS", x -> x.kept(1, 9, 40), 0);
    }

    private static void kept() {
        Edge e = Edge.of("promise 29, kept", () -> Edge.with(TEMPTED));
        e.asks("each is TEMPTED by 5", x -> x.tempts(3, 30), 5);
        e.asks("nothing TEMPTS", x -> x.kept(1, 1, 0), 15);
        e.asks("g 1, FINE 5: a million, just enough for two", x -> x.kept(1, 5, 30), 3);
        e.asks("g 2, FINE 5: two millions, just enough for four", x -> x.kept(2, 5, 30), 15);
        e.asks("g 1, FINE 4: not enough for two", x -> x.kept(1, 4, 30), 1);
        e.asks("g 1, FINE 1", x -> x.kept(1, 1, 30), 1);
        e.asks("g 2, FINE 1", x -> x.kept(2, 1, 30), 3);
        e.asks("g 3, FINE 1", x -> x.kept(3, 1, 30), 7);
        e.asks("g 1, FINE 99", x -> x.kept(1, 99, 30), 15);
        e.asks("a third and one more each: two are KEPT", x -> x.kept(1, 10, 30), 3);
        e.asks("nothing is left over: three are KEPT", x -> x.kept(1, 11, 30), 7);
        e.asks("a quarter each, nothing is left over: four", x -> x.kept(1, 15, 30), 15);
        Edge small = Edge.of("promise 29, kept", () -> {
            CanalEnd x = Edge.with(TEMPTED);
            x.syphon(1);
            return x;
        });
        small.asks("1 by 3: only one is left over, still one more: two", x -> x.kept(1, 2, 30), 3);
        small.asks("1 by 4: nothing is left over: four", x -> x.kept(1, 3, 30), 15);
        Edge eight = Edge.of("promise 29, kept", () -> Edge.with("w99;m00o19o19o19o19o19o19o19o19"));
        eight.asks("g 3, FINE 5: three millions, just enough for six", x -> x.kept(3, 5, 60), 63);
        eight.asks("g 1, FINE 35: an eighth each, all eight", x -> x.kept(1, 35, 60), 255);
        eight.asks("g 1, FINE 34", x -> x.kept(1, 34, 60), 127);
    }

    private static void keptByOdds() {
        Edge others = Edge.of("promise 29, kept", () -> {
            CanalEnd x = Edge.with(TEMPTED);
            x.kind(2, 1);
            x.kind(3, 2);
            return x;
        });
        others.asks("those that are not RIGHT, too", x -> x.kept(1, 4, 60), 13);
        Edge least = Edge.of("promise 29, kept", () -> Edge.with("w99;m03o13o19"));
        least.asks("TEMPTED by more", x -> x.tempts(0, 30), 8);
        least.asks("TEMPTED by less", x -> x.tempts(1, 30), 5);
        least.asks("the least odds first", x -> x.kept(1, 1, 30), 2);
        least.asks("then the next ones", x -> x.kept(2, 1, 30), 3);
    }
}
