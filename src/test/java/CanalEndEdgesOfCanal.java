import java.util.function.Supplier;

/** The boundary cases of promises 1 to 9: the canal. */
public final class CanalEndEdgesOfCanal {
    private static final String MILE = ";m00", EIGHT = "o10o10o10o10o10o10o10o10";

    public static void main(String[] args) {
        newObject();
        newObjectsShareNothing();
        canalRefused();
        canalCells();
        canalOfEachSheet();
        widths();
        howManyMiles();
        digits();
        howManyOutlets();
        textsThatEndTooSoon();
        codesWithWhichNoTextGoesOn();
        codesAreCutOnTheirSheet();
        takenTextMakesAllAnew();
        takenTextForgetsTheOldOne();
        ofMile();
        turn();
        ofOutlet();
        kind();
        needs();
        guard();
        syphon();
        Edge.end();
    }

    // ---- promise 1

    private static void newObject() {
        Edge e = Edge.of("promise 1, a new object", CanalEnd::new);
        for (int what = 0; what <= 4; what++) {
            int asked = what;
            e.asks("many " + what, x -> x.many(asked), 0);
        }
        e.refused("has no MILE", x -> x.ofMile(0, 0), Edge.UNKNOWN);
        e.refused("has no OUTLET", x -> x.ofOutlet(0, 0), Edge.UNKNOWN);
        e.refused("has no CANAL", CanalEnd::fits, Edge.STATE);
        e.asks("has no READINGS", x -> x.back(0), 0);
        e.does("has SYPHON 5", x -> x.syphon(0), 5);
        e.asks("has TRACE 0", CanalEnd::trace, 0);
        for (int k = 0; k <= 3; k++) {
            int sheet = k;
            e.asks("SHEET " + k + " has nothing to lose", x -> x.lose(sheet), 0);
            for (int sort = 0; sort <= 2; sort++) {
                int as = sort;
                Edge.ofFaults("promise 1", CanalEnd::new)
                        .lost("SHEET " + k + " has nothing", x -> x.cell(sheet, 0, as), Edge.NULL);
            }
        }
        Edge.due("promise 1, 39: fault() ahead of any call", new CanalEnd().fault(), 0);
    }

    private static void newObjectsShareNothing() {
        CanalEnd first = Edge.busy();
        CanalEnd second = new CanalEnd();
        Edge.due("promise 1: MILES of another object", second.many(0), 0);
        Edge.due("promise 1: SYPHON of another object", second.syphon(7), 5);
        Edge.due("promise 1: TRACE of another object", second.trace(), 0);
        Edge.due("promise 1: a SHEET of another object", second.lose(0), 0);
        Edge.due("promise 1: SYPHON of the first one", first.syphon(8), 8);
        Edge.due("promise 1: a SHEET of the first one", first.lose(0), 1);
    }

    // ---- promise 2

    private static void canalRefused() {
        Edge e = Edge.ofFaults("promise 2, canal", Edge::busy);
        e.bounds("SHEET", (x, k) -> x.canal(k, Edge.BYTES, 0, 0), 0, 3, Edge.UNKNOWN);
        e.bounds("sort", (x, sort) -> x.canal(3, sort, 0, 0), 0, 2, Edge.OUTSIDE);
        e.refused("UNKNOWN is ahead of OUTSIDE", x -> x.canal(4, 3, 0, 24), Edge.UNKNOWN);
        e.refused("UNKNOWN is ahead of SIZE", x -> x.canal(-1, 0, 0, -1), Edge.UNKNOWN);
        e.refused("OUTSIDE is ahead of CAST", x -> x.canal(3, 3, 0, 24), Edge.OUTSIDE);
        e.refused("OUTSIDE is ahead of NULL", x -> x.canal(2, -1, 0, 1), Edge.OUTSIDE);
        e.faulty("bytes are no shorts", x -> x.canal(0, Edge.SHORTS, 0, 1), Edge.CAST);
        e.faulty("bytes are no ints", x -> x.canal(0, Edge.INTS, 0, 1), Edge.CAST);
        e.faulty("shorts are no bytes", x -> x.canal(3, Edge.BYTES, 0, 24), Edge.CAST);
        e.faulty("shorts are no ints", x -> x.canal(3, Edge.INTS, 0, 24), Edge.CAST);
        e.faulty("ints are no bytes", x -> x.canal(1, Edge.BYTES, 0, 1), Edge.CAST);
        e.faulty("ints are no shorts", x -> x.canal(1, Edge.SHORTS, 0, 1), Edge.CAST);
        for (int sort = 0; sort <= 2; sort++) {
            int as = sort;
            e.faulty("nothing is no CAST, as " + sort, x -> x.canal(2, as, 0, 1), Edge.NULL);
        }
        e.faulty("CAST is ahead of SIZE", x -> x.canal(3, Edge.BYTES, 0, -1), Edge.CAST);
        e.faulty("CAST is ahead of INDEX", x -> x.canal(3, Edge.BYTES, -1, 24), Edge.CAST);
        e.faulty("NULL is ahead of SIZE", x -> x.canal(2, Edge.INTS, 0, -1), Edge.NULL);
        e.faulty("NULL is ahead of INDEX", x -> x.canal(2, Edge.INTS, -1, 1), Edge.NULL);
        e.faulty("n -1", x -> x.canal(3, Edge.SHORTS, 0, -1), Edge.SIZE);
        e.faulty("n far below 0", x -> x.canal(3, Edge.SHORTS, 0, Edge.LEAST), Edge.SIZE);
        e.faulty("SIZE is ahead of INDEX", x -> x.canal(3, Edge.SHORTS, -1, -1), Edge.SIZE);
        e.faulty("SIZE is ahead of INDEX beyond", x -> x.canal(3, Edge.SHORTS, 25, -1), Edge.SIZE);
    }

    private static void canalCells() {
        Edge e = Edge.ofFaults("promise 2, canal", Edge::busy);
        e.faulty("i -1", x -> x.canal(3, Edge.SHORTS, -1, 1), Edge.INDEX);
        e.faulty("i -1, no cell is taken", x -> x.canal(3, Edge.SHORTS, -1, 0), Edge.INDEX);
        e.faulty("i far below", x -> x.canal(3, Edge.SHORTS, Edge.LEAST, 24), Edge.INDEX);
        e.faulty("i is one beyond, no cell is taken", x -> x.canal(3, Edge.SHORTS, 25, 0), Edge.INDEX);
        e.faulty("i far beyond, no cell is taken", x -> x.canal(3, Edge.SHORTS, Edge.MOST, 0), Edge.INDEX);
        e.faulty("one cell at the end", x -> x.canal(3, Edge.SHORTS, 24, 1), Edge.INDEX);
        e.faulty("one cell too many", x -> x.canal(3, Edge.SHORTS, 0, 25), Edge.INDEX);
        e.faulty("one cell too many, from 1 on", x -> x.canal(3, Edge.SHORTS, 1, 24), Edge.INDEX);
        e.faulty("i and n beyond any int", x -> x.canal(3, Edge.SHORTS, 1, Edge.MOST), Edge.INDEX);
        e.faulty("both as large as can be", x -> x.canal(3, Edge.SHORTS, Edge.MOST, Edge.MOST), Edge.INDEX);
        e.refused("no cells, from 0 on: a TEXT of no codes", x -> x.canal(3, Edge.SHORTS, 0, 0), -100);
        e.refused("no cells, from the end on", x -> x.canal(3, Edge.SHORTS, 24, 0), -100);
        e.refused("the last cell alone is no TEXT", x -> x.canal(3, Edge.SHORTS, 23, 1), -100);
        e.then("all cells", x -> x.canal(3, Edge.SHORTS, 0, 24), 3, x -> x.many(1), 3);
        e.then("all but the last OUTLET's", x -> x.canal(3, Edge.SHORTS, 0, 21), 3, x -> x.many(1), 2);
        Edge none = Edge.ofFaults("promise 2, canal", () -> laidOn(0, Edge.BYTES, new int[0]));
        none.refused("a row of no cells", x -> x.canal(0, Edge.BYTES, 0, 0), -100);
        none.faulty("a row of no cells, one taken", x -> x.canal(0, Edge.BYTES, 0, 1), Edge.INDEX);
        none.faulty("a row of no cells, from 1 on", x -> x.canal(0, Edge.BYTES, 1, 0), Edge.INDEX);
        int[] hundred = new int[100];
        System.arraycopy(Edge.codes("w9;m12"), 0, hundred, 94, 6);
        Edge last = Edge.ofFaults("promise 2, canal", () -> laidOn(0, Edge.BYTES, hundred));
        last.then("the last six of 100 cells", x -> x.canal(0, Edge.BYTES, 94, 6), 1, x -> x.ofMile(0, 1), 2);
        last.faulty("seven of the last six", x -> x.canal(0, Edge.BYTES, 94, 7), Edge.INDEX);
    }

    private static CanalEnd laidOn(int k, int sort, int[] codes) {
        CanalEnd x = new CanalEnd();
        Edge.lay(x, k, sort, codes);
        return x;
    }

    private static void canalOfEachSheet() {
        int[] codes = Edge.codes("w7;m12o34");
        for (int k = 0; k <= 3; k++) {
            for (int sort = 0; sort <= 2; sort++) {
                int sheet = k;
                int as = sort;
                Edge.ofFaults("promise 2, canal", () -> laidOn(sheet, as, codes))
                        .then("of SHEET " + k + ", sort " + sort, x -> x.canal(sheet, as, 0, 9), 1, x -> x.ofOutlet(0, 3), 4);
            }
        }
    }

    private static Supplier<CanalEnd> busyWith(int[] codes) {
        return () -> {
            CanalEnd x = Edge.busy();
            Edge.lay(x, 2, Edge.INTS, codes);
            return x;
        };
    }

    /** Its FIRST FAULT; nothing changes then, and the machine has come to no FAULT. */
    private static void fault(String told, int[] codes, int place) {
        Edge.ofFaults("promise 2, FIRST FAULT", busyWith(codes))
                .refused(told, x -> x.canal(2, Edge.INTS, 0, codes.length), -100 - place);
    }

    private static void fault(String text, int place) {
        fault("'" + text + "'", Edge.codes(text), place);
    }

    private static void taken(String text, int miles, int outlets) {
        Edge.ofFaults("promise 2, a TEXT", busyWith(Edge.codes(text)))
                .then("'" + text + "'", x -> x.canal(2, Edge.INTS, 0, text.length()), miles, x -> x.many(1), outlets);
    }

    private static void widths() {
        for (int width : new int[] {1, 9, 10, 99}) {
            String text = "w" + width + ";m00";
            taken(text, 1, 0);
            Edge.due("promise 2: WIDTH " + width, Edge.with(text).level(0, 99, false), 990 / width);
        }
        fault("w0;m00", 1);
        fault("w00;m00", 1);
        fault("w100;m00", 3);
        fault("w999;m00", 3);
        fault("w;m00", 1);
        fault("w", 1);
        fault("wx;m00", 1);
        fault("w/;m00", 1);
        fault("w:;m00", 1);
        fault("w1/;m00", 2);
        fault("w1:;m00", 2);
        fault("w-1;m00", 1);
        fault("w00;", 1);
    }

    private static void howManyMiles() {
        taken("w5" + MILE, 1, 0);
        taken("w5" + MILE.repeat(10), 10, 0);
        fault("w5", 2);
        fault("w5" + MILE.repeat(11), 42);
        fault("w5" + MILE.repeat(10) + ";", 42);
        fault("w55" + MILE.repeat(9) + MILE + EIGHT + ";", 67);
        fault("w5" + MILE.repeat(10) + "o", 43);
        taken("w55" + MILE.repeat(9) + MILE + EIGHT, 10, 8);
    }

    private static void digits() {
        for (char digit = '0'; digit <= '9'; digit++) {
            int value = digit - '0';
            CanalEnd x = Edge.with("w5;m" + digit + digit + "o1" + digit);
            Edge.due("promise 2: SEEP " + value, x.ofMile(0, 0), value);
            Edge.due("promise 2: SILT " + value, x.ofMile(0, 1), value);
            Edge.due("promise 2: HEIGHT " + value, x.ofOutlet(0, 3), value);
            if (value > 0) {
                Edge.due("promise 2: SIZE " + value, Edge.with("w5;m00o" + digit + "0").ofOutlet(0, 2), value);
            }
        }
        fault("w5;m00o00", 7);
        for (char none : new char[] {'/', ':'}) {
            fault("w5;m" + none + "0", 4);
            fault("w5;m0" + none, 5);
            fault("w5;m00o" + none + "0", 7);
            fault("w5;m00o1" + none, 8);
        }
    }

    private static void howManyOutlets() {
        taken("w5" + MILE + EIGHT, 1, 8);
        taken("w5" + MILE + EIGHT + MILE, 2, 8);
        taken("w5" + MILE + "o10" + MILE + "o10o10o10o10o10o10o10", 2, 8);
        fault("w5" + MILE + EIGHT + "o10", 30);
        fault("w5" + MILE + EIGHT + "o", 30);
        fault("w5" + MILE + EIGHT + MILE + "o10", 34);
        fault("w5" + MILE + "o10" + MILE + EIGHT, 34);
        fault("w5" + MILE.repeat(9) + EIGHT + MILE + "o10", 66);
    }

    private static void textsThatEndTooSoon() {
        String text = "w12;m34o56o78;m90";
        for (int n = 0; n < text.length(); n++) {
            if (n == 7 || n == 10 || n == 13) {
                taken(text.substring(0, n), 1, (n - 7) / 3);
            } else {
                fault(text.substring(0, n), n);
            }
        }
        taken(text, 2, 2);
        // where it ends too soon, what is on the SHEET behind it is no part of it
        Edge.ofFaults("promise 2, FIRST FAULT", Edge::busy)
                .refused("the cells behind the TEXT", x -> x.canal(3, Edge.SHORTS, 0, 23), -123);
    }

    private static void codesWithWhichNoTextGoesOn() {
        String text = "w12;m34o56;m78";
        for (int at = 0; at < text.length(); at++) {
            char code = text.charAt(at);
            for (int none : new int[] {-1, 0, 47, 58, code ^ 32, code + 256, code - 256, code + 65536, Edge.LEAST | code}) {
                faultWith(text, at, none);
            }
            if (!Character.isDigit(code)) {
                faultWith(text, at, code - 1);
                faultWith(text, at, code + 1);
            }
        }
        fault(text + "9", 14);
        fault(text + "w", 14);
        fault(text + "m", 14);
        fault("w12;m34;;m78", 8);
        fault("w12;m34om78", 8);
        fault("w12o56;m34", 3);
        fault("ww12;m34", 1);
        fault("x", 0);
        fault("12;m34", 0);
    }

    private static void faultWith(String text, int place, int code) {
        int[] codes = Edge.codes(text);
        codes[place] = code;
        fault("'" + text + "' with " + code + " at " + place, codes, place);
    }

    private static void codesAreCutOnTheirSheet() {
        int[] bytes = Edge.codes("w5;m00");
        int[] shorts = Edge.codes("w5;m00");
        for (int i = 0; i < bytes.length; i++) {
            bytes[i] += 256;
            shorts[i] -= 65536;
        }
        Edge.ofFaults("promise 2, 7", () -> laidOn(0, Edge.BYTES, bytes))
                .does("codes cut to bytes", x -> x.canal(0, Edge.BYTES, 0, 6), 1);
        Edge.ofFaults("promise 2, 7", () -> laidOn(0, Edge.SHORTS, shorts))
                .does("codes cut to shorts", x -> x.canal(0, Edge.SHORTS, 0, 6), 1);
        Edge.ofFaults("promise 2, 7", () -> laidOn(0, Edge.SHORTS, bytes))
                .refused("codes that shorts do not cut", x -> x.canal(0, Edge.SHORTS, 0, 6), -100);
    }

    private static void takenTextMakesAllAnew() {
        Edge e = Edge.ofFaults("promise 2, a TEXT that is taken", () -> {
            CanalEnd x = Edge.busy();
            x.turn(0, 0, 9);
            x.turn(2, 1, 9);
            x.best(40);
            x.fits();
            return x;
        });
        Edge.Call take = x -> x.canal(3, Edge.SHORTS, 0, 24);
        e.then("SEEP is as told", take, 3, x -> x.ofMile(0, 0), 5);
        e.then("SILT is as told", take, 3, x -> x.ofMile(2, 1), 3);
        e.then("each OUTLET is RIGHT", take, 3, x -> x.many(3), 0);
        e.then("the one that was NIGHTLY, too", take, 3, x -> x.ofOutlet(1, 0), 0);
        e.then("NEEDS 0", take, 3, x -> x.ofOutlet(0, 4), 0);
        e.then("none is GUARDED", take, 3, x -> x.many(4), 0);
        e.then("the one that was, too", take, 3, x -> x.ofOutlet(2, 5), 0);
        e.then("no READINGS", take, 3, x -> x.many(2), 0);
        e.then("no READING to take back", take, 3, x -> x.back(1), Edge.OUTSIDE);
        e.then("all WORLDS FIT", take, 3, CanalEnd::fits, 27);
        e.then("SYPHON stays", take, 3, x -> x.syphon(0), 8);
        e.then("TRACE stays", take, 3, CanalEnd::trace, Edge.busy().trace());
        e.then("its own SHEET stays", take, 3, x -> x.cell(3, 23, Edge.SHORTS), '1');
        e.then("another SHEET stays", take, 3, x -> x.cell(1, 3, Edge.INTS), -9999);
        e.then("nothing stays nothing", take, 3, x -> x.lose(2), 0);
    }

    private static void takenTextForgetsTheOldOne() {
        Edge e = Edge.ofFaults("promise 2, a smaller TEXT", busyWith(Edge.codes("w5;m00")));
        e.then("has no second MILE", x -> x.canal(2, Edge.INTS, 0, 6), 1, x -> x.ofMile(1, 0), Edge.UNKNOWN);
        e.then("has no OUTLET", x -> x.canal(2, Edge.INTS, 0, 6), 1, x -> x.ofOutlet(0, 0), Edge.UNKNOWN);
        e.then("has no first OUTLET", x -> x.canal(2, Edge.INTS, 0, 6), 1, x -> x.ofMile(0, 2), Edge.NONE);
        e.then("is of one WORLD", x -> x.canal(2, Edge.INTS, 0, 6), 1, CanalEnd::fits, 1);
        e.then("has its own WIDTH", x -> x.canal(2, Edge.INTS, 0, 6), 1, x -> x.level(0, 99, false), 198);
    }

    // ---- promises 3 to 9

    private static void ofMile() {
        Edge e = Edge.of("promise 3, ofMile", Edge::busy);
        for (int asked = 0; asked <= 3; asked++) {
            int what = asked;
            e.bounds("MILE, what " + what + ",", (x, j) -> x.ofMile(j, what), 0, 2, Edge.UNKNOWN);
        }
        e.bounds("what", (x, what) -> x.ofMile(0, what), 0, 3, Edge.OUTSIDE);
        e.refused("UNKNOWN is ahead of OUTSIDE", x -> x.ofMile(3, 4), Edge.UNKNOWN);
        e.refused("UNKNOWN is ahead of OUTSIDE below", x -> x.ofMile(-1, -1), Edge.UNKNOWN);
        e.asks("first OUTLET, where there is none", x -> x.ofMile(1, 2), Edge.NONE);
        e.asks("how many OUTLETS, where there is none", x -> x.ofMile(1, 3), 0);
        e.asks("first OUTLET of the first MILE", x -> x.ofMile(0, 2), 0);
        e.asks("first OUTLET behind an empty MILE", x -> x.ofMile(2, 2), 2);
        e.asks("how many OUTLETS of the last MILE", x -> x.ofMile(2, 3), 1);
        Edge ends = Edge.of("promise 3, ofMile", () -> Edge.with("w5;m00;m00" + EIGHT + ";m00"));
        ends.asks("first OUTLET, none in the first MILE", x -> x.ofMile(0, 2), Edge.NONE);
        ends.asks("first OUTLET, none in the last MILE", x -> x.ofMile(2, 2), Edge.NONE);
        ends.asks("all eight OUTLETS", x -> x.ofMile(1, 3), 8);
        Edge ten = Edge.of("promise 3, ofMile", () -> Edge.with("w5" + MILE.repeat(9) + ";m98"));
        ten.bounds("MILE of ten", (x, j) -> x.ofMile(j, 0), 0, 9, Edge.UNKNOWN);
        ten.asks("SEEP of the tenth MILE", x -> x.ofMile(9, 0), 9);
        ten.asks("SILT of the tenth MILE", x -> x.ofMile(9, 1), 8);
    }

    private static void turn() {
        Edge e = Edge.of("promise 4, turn", Edge::busy);
        e.bounds("MILE", (x, j) -> x.turn(j, 0, 1), 0, 2, Edge.UNKNOWN);
        e.bounds("what", (x, what) -> x.turn(0, what, 1), 0, 1, Edge.OUTSIDE);
        e.bounds("v of SEEP", (x, v) -> x.turn(0, 0, v), 0, 9, Edge.OUTSIDE);
        e.bounds("v of SILT", (x, v) -> x.turn(0, 1, v), 0, 9, Edge.OUTSIDE);
        e.refused("UNKNOWN is ahead of OUTSIDE: what", x -> x.turn(3, 2, 1), Edge.UNKNOWN);
        e.refused("UNKNOWN is ahead of OUTSIDE: v", x -> x.turn(-1, 0, 10), Edge.UNKNOWN);
        e.then("SEEP to the least", x -> x.turn(0, 0, 0), 5, x -> x.ofMile(0, 0), 0);
        e.then("SEEP to the most", x -> x.turn(0, 0, 9), 5, x -> x.ofMile(0, 0), 9);
        e.then("SEEP leaves SILT", x -> x.turn(0, 0, 9), 5, x -> x.ofMile(0, 1), 2);
        e.then("SILT to the least", x -> x.turn(2, 1, 0), 3, x -> x.ofMile(2, 1), 0);
        e.then("SILT to the most", x -> x.turn(2, 1, 9), 3, x -> x.ofMile(2, 1), 9);
        e.then("SILT leaves SEEP", x -> x.turn(0, 1, 9), 2, x -> x.ofMile(0, 0), 5);
        e.asks("to what it is", x -> x.turn(0, 0, 5), 5);
        Edge counted = Edge.of("promise 4, 17: WORLDS by SEEP and SILT as they are now", Edge::busy);
        counted.then("SEEP", x -> x.turn(0, 0, 9), 5, CanalEnd::fits, 0);
        counted.then("SILT", x -> x.turn(0, 1, 9), 2, CanalEnd::fits, 0);
    }

    private static void ofOutlet() {
        Edge e = Edge.of("promise 5, ofOutlet", Edge::busy);
        for (int asked = 0; asked <= 5; asked++) {
            int what = asked;
            e.bounds("OUTLET, what " + what + ",", (x, o) -> x.ofOutlet(o, what), 0, 2, Edge.UNKNOWN);
        }
        e.bounds("what", (x, what) -> x.ofOutlet(0, what), 0, 5, Edge.OUTSIDE);
        e.refused("UNKNOWN is ahead of OUTSIDE", x -> x.ofOutlet(3, 6), Edge.UNKNOWN);
        e.refused("UNKNOWN is ahead of OUTSIDE below", x -> x.ofOutlet(-1, -1), Edge.UNKNOWN);
        int[][] due = {{0, 0, 2, 3, 7, 0}, {2, 0, 1, 4, 0, 0}, {0, 2, 2, 1, 0, 1}};
        for (int o = 0; o < 3; o++) {
            for (int what = 0; what < 6; what++) {
                int outlet = o;
                int asked = what;
                e.asks("of " + o + ", what " + what, x -> x.ofOutlet(outlet, asked), due[o][what]);
            }
        }
        Edge eight = Edge.of("promise 5, ofOutlet", () -> Edge.with("w5;m00" + EIGHT));
        eight.bounds("OUTLET of eight", (x, o) -> x.ofOutlet(o, 0), 0, 7, Edge.UNKNOWN);
        Edge.of("promise 5, ofOutlet", () -> Edge.with("w5;m00"))
                .refused("of no OUTLETS", x -> x.ofOutlet(0, 0), Edge.UNKNOWN);
    }

    private static void kind() {
        Edge e = Edge.of("promise 6, kind", Edge::busy);
        e.bounds("OUTLET", (x, o) -> x.kind(o, 1), 0, 2, Edge.UNKNOWN);
        e.bounds("v", (x, v) -> x.kind(0, v), 0, 2, Edge.OUTSIDE);
        e.refused("UNKNOWN is ahead of OUTSIDE", x -> x.kind(3, 3), Edge.UNKNOWN);
        e.refused("UNKNOWN is ahead of OUTSIDE below", x -> x.kind(-1, -1), Edge.UNKNOWN);
        e.then("to the last kind", x -> x.kind(0, 2), 0, x -> x.ofOutlet(0, 0), 2);
        e.then("to the first kind", x -> x.kind(1, 0), 2, x -> x.ofOutlet(1, 0), 0);
        e.asks("to what it is", x -> x.kind(1, 2), 2);
        e.then("of one that is GUARDED", x -> x.kind(2, 1), 0, x -> x.ofOutlet(2, 0), 1);
        e.then("WORLDS FIT whatever it is now", x -> x.kind(0, 2), 0, CanalEnd::fits, Edge.busy().fits());
    }

    private static void needs() {
        Edge e = Edge.of("promise 7, needs", Edge::busy);
        e.bounds("OUTLET", (x, o) -> x.needs(o, 1), 0, 2, Edge.UNKNOWN);
        e.bounds("v", (x, v) -> x.needs(0, v), 0, 999, Edge.OUTSIDE);
        e.refused("UNKNOWN is ahead of OUTSIDE", x -> x.needs(3, 1000), Edge.UNKNOWN);
        e.refused("UNKNOWN is ahead of OUTSIDE below", x -> x.needs(-1, -1), Edge.UNKNOWN);
        e.then("the most", x -> x.needs(0, 999), 7, x -> x.ofOutlet(0, 4), 999);
        e.then("the least", x -> x.needs(0, 0), 7, x -> x.ofOutlet(0, 4), 0);
        e.asks("what it is", x -> x.needs(0, 7), 7);
    }

    private static void guard() {
        Edge e = Edge.of("promise 8, guard", Edge::busy);
        e.bounds("OUTLET", (x, o) -> x.guard(o, true), 0, 2, Edge.UNKNOWN);
        e.bounds("OUTLET, not", (x, o) -> x.guard(o, false), 0, 2, Edge.UNKNOWN);
        e.then("from now on", x -> x.guard(0, true), 1, x -> x.ofOutlet(0, 5), 1);
        e.then("no longer", x -> x.guard(2, false), 1, x -> x.ofOutlet(2, 5), 0);
        e.asks("it was so", x -> x.guard(2, true), 0);
        e.asks("it was not so", x -> x.guard(0, false), 0);
    }

    private static void syphon() {
        Edge e = Edge.of("promise 9, syphon", Edge::busy);
        e.bounds("v", (x, v) -> x.syphon(v), 0, 99, Edge.OUTSIDE);
        e.then("the least", x -> x.syphon(0), 8, x -> x.syphon(1), 0);
        e.then("the most", x -> x.syphon(99), 8, x -> x.syphon(1), 99);
        e.asks("what it is", x -> x.syphon(8), 8);
        Edge none = Edge.of("promise 9, syphon", CanalEnd::new);
        none.bounds("v without a CANAL", (x, v) -> x.syphon(v), 0, 99, Edge.OUTSIDE);
        none.then("at first", x -> x.syphon(99), 5, x -> x.syphon(0), 99);
        Edge counted = Edge.of("promise 9, 17: WORLDS by SYPHON as it is now", Edge::busy);
        counted.then("another SYPHON", x -> x.syphon(9), 8, CanalEnd::fits, 0);
    }
}
