/** Cases worked out by hand from the document, promise by promise. */
public final class CanalEndPromises {
    private static final long LOST = Long.MIN_VALUE;
    private static final int NULL = -11, CAST = -12, INDEX = -13, SIZE = -14;
    private static final String THREE = "w99;m52o23o14;m00;m03o21";
    private static int wrong = 0;
    private static int asked = 0;

    private static void due(String call, long got, long want) {
        asked++;
        if (got != want) {
            wrong++;
            System.out.println(call + " answered " + got + ", due is " + want);
        }
    }

    public static void main(String[] args) {
        newObject();
        textsTaken();
        textsWithFaults();
        canalRefusals();
        milesAndOutlets();
        changes();
        hours();
        rows();
        readings();
        fitting();
        gaugesThatTell();
        people();
        things();
        digging();
        evenHeights();
        guards();
        sheets();
        copies();
        parts();
        faults();
        many();
        System.out.println(asked + " answers looked at, " + wrong + " wrong");
        if (wrong != 0) {
            System.exit(1);
        }
    }

    /** Lays the text on SHEET 3 and takes it. */
    private static int take(CanalEnd x, String text) {
        x.sheet(3, 1, text.length());
        for (int i = 0; i < text.length(); i++) {
            x.put(3, i, text.charAt(i));
        }
        return x.canal(3, 1, 0, text.length());
    }

    private static CanalEnd with(String text) {
        CanalEnd x = new CanalEnd();
        if (take(x, text) < 1) {
            due("canal of " + text, 0, 1);
        }
        return x;
    }

    private static void newObject() {
        CanalEnd x = new CanalEnd();
        for (int what = 0; what < 5; what++) {
            due("1 many " + what, x.many(what), 0);
        }
        for (int k = 0; k < 4; k++) {
            due("1 put on nothing", x.put(k, 0, 1), NULL);
            due("1 lose nothing", x.lose(k), 0);
        }
        due("1 trace", x.trace(), 0);
        due("1 fits", x.fits(), CanalEnd.STATE);
        due("1 syphon", x.syphon(0), 5);
        CanalEnd y = new CanalEnd();
        due("1 fault ahead of any", y.fault(), 0);
        due("constant LOST", CanalEnd.LOST, LOST);
        due("constant UNKNOWN", CanalEnd.UNKNOWN, -1);
        due("constant OUTSIDE", CanalEnd.OUTSIDE, -2);
        due("constant STATE", CanalEnd.STATE, -3);
        due("constant FULL", CanalEnd.FULL, -4);
        due("constant NONE", CanalEnd.NONE, -9);
    }

    private static void textsTaken() {
        String mile = ";m00";
        String outlets = "o10o10o10o10o10o10o10o10";
        due("2 least", take(new CanalEnd(), "w1;m00"), 1);
        due("2 widest", take(new CanalEnd(), "w99;m99o99"), 1);
        due("2 two digits, the first 0", take(new CanalEnd(), "w05;m00"), 1);
        due("2 ten miles", take(new CanalEnd(), "w5" + mile.repeat(10)), 10);
        due("2 eight outlets", take(new CanalEnd(), "w5" + mile + outlets + mile), 2);
        due("2 the longest", take(new CanalEnd(), "w50" + mile.repeat(9) + mile + outlets), 10);
        CanalEnd x = new CanalEnd();
        String text = "xxw7;m12o34yy";
        for (int sort = 0; sort < 3; sort++) {
            x.sheet(sort, sort, text.length());
            for (int i = 0; i < text.length(); i++) {
                x.put(sort, i, text.charAt(i));
            }
            due("2 from within", x.canal(sort, sort, 2, 9), 1);
            due("2 seep", x.ofMile(0, 0), 1);
            due("2 height", x.ofOutlet(0, 3), 4);
        }
    }

    private static void fault(String text, int place) {
        CanalEnd x = with("w9;m11o11");
        due("2 canal of '" + text + "'", take(x, text), -100 - place);
        due("2 miles stay", x.many(0), 1);
        due("2 outlets stay", x.many(1), 1);
        due("2 seep stays", x.ofMile(0, 0), 1);
        due("2 no FAULT of the machine", x.fault(), 0);
    }

    private static void textsWithFaults() {
        String mile = ";m00";
        String outlets = "o10o10o10o10o10o10o10o10";
        fault("", 0);
        fault("x", 0);
        fault("W5;m00", 0);
        fault("w", 1);
        fault("w;m00", 1);
        fault("w-5;m00", 1);
        fault("w0;m00", 1);
        fault("w00;m00", 1);
        fault("w000;m00", 1);
        fault("w0", 1);
        fault("w0x", 1);
        fault("w5", 2);
        fault("w55", 3);
        fault("w555;m00", 3);
        fault("w5m00", 2);
        fault("w5;", 3);
        fault("w5;o11", 3);
        fault("w5;m", 4);
        fault("w5;mx", 4);
        fault("w5;m0", 5);
        fault("w5;m0o11", 5);
        fault("w5;m000", 6);
        fault("w5;m00o", 7);
        fault("w5;m00o0", 7);
        fault("w5;m00o05", 7);
        fault("w5;m00o1", 8);
        fault("w5;m00o1x", 8);
        fault("w5;m00o123", 9);
        fault("w5;m00;", 7);
        fault("w5;m00 ", 6);
        fault("w5" + mile.repeat(11), 42);
        fault("w5" + mile.repeat(10) + "x", 42);
        fault("w5" + mile + outlets + "o10", 30);
        fault("w5" + mile + outlets + mile + "o10", 34);
    }

    private static void canalRefusals() {
        CanalEnd x = with(THREE);
        x.kind(0, 2);
        x.needs(1, 7);
        x.guard(2, true);
        x.syphon(9);
        x.reading(0, 1, false, 1);
        x.tell(0);
        int trace = x.trace();
        due("2 no sheet -1", x.canal(-1, 9, 0, 1), CanalEnd.UNKNOWN);
        due("2 no sheet 4", x.canal(4, 0, 0, 1), CanalEnd.UNKNOWN);
        due("2 no sort -1", x.canal(3, -1, 0, 1), CanalEnd.OUTSIDE);
        due("2 no sort 3", x.canal(0, 3, 0, 1), CanalEnd.OUTSIDE);
        due("2 cast ahead of size", x.canal(3, 0, 0, -1), CAST);
        due("2 nothing is no cast", x.canal(0, 0, 0, -1), NULL);
        due("2 size ahead of index", x.canal(3, 1, -1, -1), SIZE);
        due("2 index below", x.canal(3, 1, -1, 0), INDEX);
        due("2 index beyond, none taken", x.canal(3, 1, THREE.length() + 1, 0), INDEX);
        due("2 none taken at the end", x.canal(3, 1, THREE.length(), 0), -100);
        due("2 too many", x.canal(3, 1, 1, THREE.length()), INDEX);
        due("2 far too many", x.canal(3, 1, 1, Integer.MAX_VALUE), INDEX);
        due("2 far beyond", x.canal(3, 1, Integer.MAX_VALUE, Integer.MAX_VALUE), INDEX);
        due("2 readings stay", x.many(2), 1);
        due("2 kinds stay", x.many(3), 1);
        due("2 guards stay", x.many(4), 1);
        due("2 taken again", x.canal(3, 1, 0, THREE.length()), 3);
        due("2 no readings then", x.many(2), 0);
        due("2 all right then", x.many(3), 0);
        due("2 no guards then", x.many(4), 0);
        due("2 no needs then", x.ofOutlet(1, 4), 0);
        due("2 syphon stays", x.syphon(9), 9);
        due("2 trace stays", x.trace(), trace);
        due("2 sheet stays", x.cell(3, 0, 1), 'w');
    }

    private static void milesAndOutlets() {
        CanalEnd x = with(THREE);
        int[][] miles = {{5, 2, 0, 2}, {0, 0, -9, 0}, {0, 3, 2, 1}};
        int[][] outlets = {{0, 0, 2, 3, 0, 0}, {0, 0, 1, 4, 0, 0}, {0, 2, 2, 1, 0, 0}};
        for (int j = 0; j < 3; j++) {
            for (int what = 0; what < 4; what++) {
                due("3 ofMile " + j + " " + what, x.ofMile(j, what), miles[j][what]);
            }
            for (int what = 0; what < 6; what++) {
                due("5 ofOutlet " + j + " " + what, x.ofOutlet(j, what), outlets[j][what]);
            }
        }
        for (int no : new int[] {-1, 3, Integer.MIN_VALUE, Integer.MAX_VALUE}) {
            due("3 no mile", x.ofMile(no, 9), CanalEnd.UNKNOWN);
            due("4 no mile", x.turn(no, 9, 99), CanalEnd.UNKNOWN);
            due("5 no outlet", x.ofOutlet(no, 9), CanalEnd.UNKNOWN);
            due("6 no outlet", x.kind(no, 9), CanalEnd.UNKNOWN);
            due("7 no outlet", x.needs(no, -1), CanalEnd.UNKNOWN);
            due("8 no outlet", x.guard(no, true), CanalEnd.UNKNOWN);
        }
        due("3 what -1", x.ofMile(0, -1), CanalEnd.OUTSIDE);
        due("3 what 4", x.ofMile(0, 4), CanalEnd.OUTSIDE);
        due("5 what -1", x.ofOutlet(0, -1), CanalEnd.OUTSIDE);
        due("5 what 6", x.ofOutlet(0, 6), CanalEnd.OUTSIDE);
    }

    private static void changes() {
        CanalEnd x = with(THREE);
        due("4 seep", x.turn(0, 0, 9), 5);
        due("4 seep is", x.ofMile(0, 0), 9);
        due("4 silt", x.turn(2, 1, 0), 3);
        due("4 silt is", x.ofMile(2, 1), 0);
        due("4 what 2", x.turn(0, 2, 1), CanalEnd.OUTSIDE);
        due("4 what -1", x.turn(0, -1, 1), CanalEnd.OUTSIDE);
        due("4 v 10", x.turn(0, 0, 10), CanalEnd.OUTSIDE);
        due("4 v -1", x.turn(0, 0, -1), CanalEnd.OUTSIDE);
        due("4 seep stays", x.ofMile(0, 0), 9);
        due("6 kind", x.kind(1, 2), 0);
        due("6 kind again", x.kind(1, 1), 2);
        due("6 v 3", x.kind(1, 3), CanalEnd.OUTSIDE);
        due("6 v -1", x.kind(1, -1), CanalEnd.OUTSIDE);
        due("6 kind is", x.ofOutlet(1, 0), 1);
        due("7 needs", x.needs(1, 999), 0);
        due("7 needs again", x.needs(1, 0), 999);
        due("7 v 1000", x.needs(1, 1000), CanalEnd.OUTSIDE);
        due("7 v -1", x.needs(1, -1), CanalEnd.OUTSIDE);
        due("7 needs are", x.ofOutlet(1, 4), 0);
        due("8 not so", x.guard(2, false), 0);
        due("8 guarded", x.guard(2, true), 1);
        due("8 so", x.guard(2, true), 0);
        due("8 is", x.ofOutlet(2, 5), 1);
        due("8 no longer", x.guard(2, false), 1);
        due("9 syphon", x.syphon(99), 5);
        due("9 none", x.syphon(0), 99);
        due("9 v 100", x.syphon(100), CanalEnd.OUTSIDE);
        due("9 v -1", x.syphon(-1), CanalEnd.OUTSIDE);
        due("9 is", x.syphon(5), 0);
    }

    private static void hour(CanalEnd x, int f, boolean night, int[] behind, int[] takes) {
        for (int j = 0; j < 3; j++) {
            due("10 behind " + j, x.behind(j, f, night), behind[j]);
            due("13 takes " + j, x.takes(j, f, night), takes[j]);
        }
    }

    private static void hours() {
        CanalEnd x = with(THREE);
        hour(x, 40, false, new int[] {33, 33, 23}, new int[] {4, 1, 10});
        hour(x, 40, true, new int[] {33, 33, 23}, new int[] {4, 1, 10});
        due("11 seeps", x.seeps(0, 40, false), 2);
        due("11 seeps, cut", x.seeps(0, 39, false), 1);
        due("11 seeps no more", x.seeps(2, 40, false), 0);
        due("12 level 0", x.level(0, 40, false), 5);
        due("12 level 1", x.level(1, 40, false), 3);
        due("12 level 2", x.level(2, 40, false), 6);
        x.kind(0, 1);
        hour(x, 40, false, new int[] {27, 27, 19}, new int[] {10, 1, 8});
        hour(x, 40, true, new int[] {27, 27, 19}, new int[] {10, 1, 8});
        x.kind(0, 2);
        hour(x, 40, false, new int[] {27, 27, 19}, new int[] {10, 1, 8});
        hour(x, 40, true, new int[] {22, 22, 14}, new int[] {15, 1, 8});
        due("11 no flow", x.seeps(0, 0, true), 0);
        due("12 silt alone", x.level(2, 0, true), 3);
        x.syphon(99);
        hour(x, 40, true, new int[] {0, 0, 0}, new int[] {38, 0, 0});
        due("12 the most", x.level(0, 9999, true), 961);
        for (int no : new int[] {-1, 3}) {
            due("10 no mile", x.behind(no, -1, true), CanalEnd.UNKNOWN);
            due("11 no mile", x.seeps(no, -1, true), CanalEnd.UNKNOWN);
            due("12 no mile", x.level(no, -1, true), CanalEnd.UNKNOWN);
            due("13 no outlet", x.takes(no, -1, true), CanalEnd.UNKNOWN);
        }
        for (int f : new int[] {-1, 10000}) {
            due("10 f", x.behind(0, f, true), CanalEnd.OUTSIDE);
            due("11 f", x.seeps(0, f, true), CanalEnd.OUTSIDE);
            due("12 f", x.level(0, f, true), CanalEnd.OUTSIDE);
            due("13 f", x.takes(0, f, true), CanalEnd.OUTSIDE);
        }
        CanalEnd narrow = with("w1;m00o99");
        due("12 narrow", narrow.level(0, 9999, false), 99990);
        due("13 no more than there is", narrow.takes(0, 9999, false), 9999);
        CanalEnd high = with("w99;m00o99");
        due("13 level not above height", high.takes(0, 98, false), 0);
        high.kind(0, 2);
        due("13 a syphon all the same", high.takes(0, 40, true), 5);
    }

    private static void rows() {
        CanalEnd x = with(THREE);
        x.kind(0, 2);
        x.sheet(0, 1, 4);
        x.put(0, 0, 10000);
        x.put(0, 1, 40);
        x.put(0, 2, -40);
        x.put(0, 3, -10000);
        due("14 came", x.row(0, 1, 1, 2, 0), 80);
        due("14 seeped", x.row(0, 1, 1, 2, 1), 4);
        due("14 taken", x.row(0, 1, 1, 2, 2), 43);
        due("14 end", x.row(0, 1, 1, 2, 3), 33);
        due("14 outlet 0", x.row(0, 1, 1, 2, 10), 25);
        due("14 outlet 1", x.row(0, 1, 1, 2, 11), 2);
        due("14 outlet 2", x.row(0, 1, 1, 2, 12), 16);
        due("14 a night alone", x.row(0, 1, 2, 1, 10), 15);
        due("14 no hours", x.row(0, 1, 4, 0, 3), 0);
        due("14 no such outlet", x.row(0, 1, 1, 2, 13), CanalEnd.OUTSIDE);
        for (int what : new int[] {-1, 4, 9, Integer.MIN_VALUE, Integer.MAX_VALUE}) {
            due("14 what " + what, x.row(0, 1, 1, 2, what), CanalEnd.OUTSIDE);
        }
        due("14 a cell above", x.row(0, 1, 0, 2, 0), CanalEnd.OUTSIDE);
        due("14 a cell below", x.row(0, 1, 2, 2, 0), CanalEnd.OUTSIDE);
        due("14 no sheet", x.row(4, 9, 0, 1, 99), CanalEnd.UNKNOWN);
        due("14 no sort", x.row(0, 3, 0, 1, 99), CanalEnd.OUTSIDE);
        due("14 cast", x.row(0, 2, 9, -1, 99), CAST);
        due("14 fault", x.fault(), 2);
        due("14 null", x.row(1, 2, 9, -1, 99), NULL);
        due("14 size", x.row(0, 1, 9, -1, 99), SIZE);
        due("14 index", x.row(0, 1, 5, 0, 99), INDEX);
        due("14 refused", x.row(0, 1, 0, 1, 99), CanalEnd.OUTSIDE);
        due("14 no fault", x.fault(), 0);
        CanalEnd none = new CanalEnd();
        none.sheet(0, 2, 1);
        due("14 no canal", none.row(0, 2, 0, 1, 3), CanalEnd.STATE);
        due("14 no canal, no cells", none.row(0, 2, 0, 0, 0), CanalEnd.STATE);
        none.put(0, 0, 10000);
        due("14 a cell ahead of the state", none.row(0, 2, 0, 1, 3), CanalEnd.OUTSIDE);
    }

    private static void readings() {
        CanalEnd x = with(THREE);
        for (int k = 0; k < 10; k++) {
            due("15 reading " + k, x.reading(k % 3, 0, true, 0), k);
        }
        due("15 full", x.reading(0, 1, true, 1), CanalEnd.FULL);
        due("15 no mile", x.reading(3, -1, true, -1), CanalEnd.UNKNOWN);
        due("15 f -1", x.reading(0, -1, true, 1), CanalEnd.OUTSIDE);
        due("15 f 10000", x.reading(0, 10000, true, 1), CanalEnd.OUTSIDE);
        due("15 v -1", x.reading(0, 1, true, -1), CanalEnd.OUTSIDE);
        due("15 v 10000", x.reading(0, 1, true, 10000), CanalEnd.OUTSIDE);
        due("16 one too many", x.back(11), CanalEnd.OUTSIDE);
        due("16 below", x.back(-1), CanalEnd.OUTSIDE);
        due("16 none", x.back(0), 10);
        due("16 four", x.back(4), 6);
        due("15 next", x.reading(0, 9999, false, 9999), 6);
        due("16 all", x.back(7), 0);
        due("16 none is there", x.back(1), CanalEnd.OUTSIDE);
        due("16 many", x.many(2), 0);
    }

    private static void fitting() {
        CanalEnd x = with(THREE);
        x.kind(1, 2);
        due("17 all", x.fits(), 27);
        due("18 may be any", x.sure(1), CanalEnd.NONE);
        due("19 upper", x.guilt(1, 0), 2);
        due("19 lower", x.guilt(1, 1), 3);
        x.reading(0, 40, false, 33);
        due("17 both right", x.fits(), 3);
        due("18 right", x.sure(0), 0);
        due("18 right too", x.sure(1), 0);
        due("18 not sure", x.sure(2), CanalEnd.NONE);
        due("19 none guilty", x.guilt(0, 0), 0);
        due("19 least terms of none", x.guilt(0, 1), 1);
        x.back(1);
        x.reading(0, 40, false, 30);
        due("17 low or nightly", x.fits(), 6);
        due("18 of two kinds", x.sure(1), CanalEnd.NONE);
        due("19 guilty", x.guilt(1, 0), 1);
        due("19 least terms of all", x.guilt(1, 1), 1);
        x.reading(0, 40, true, 25);
        due("17 nightly", x.fits(), 3);
        due("18 nightly", x.sure(1), 2);
        x.back(1);
        x.reading(0, 40, true, 30);
        due("18 low", x.sure(1), 1);
        x.syphon(6);
        due("17 still so", x.fits(), 3);
        x.syphon(0);
        due("17 a syphon that takes nothing", x.fits(), 6);
        x.turn(0, 1, 3);
        due("17 by the silt of now", x.fits(), 3);
        due("18 right by the silt of now", x.sure(1), 0);
        x.turn(0, 1, 9);
        due("17 none by the silt of now", x.fits(), 0);
        due("18 none fits", x.sure(0), CanalEnd.NONE);
        due("19 none fits", x.guilt(0, 0), LOST);
        due("20 none fits", x.tells(1, true, 0), CanalEnd.STATE);
        due("18 no outlet", x.sure(3), CanalEnd.UNKNOWN);
        due("18 no outlet below", x.sure(-1), CanalEnd.UNKNOWN);
        x.back(2);
        due("19 no outlet", x.guilt(3, 0), LOST);
        due("19 which -1", x.guilt(0, -1), LOST);
        due("19 which 2", x.guilt(0, 2), LOST);
        due("17 of no outlets", with("w5;m00").fits(), 1);
        CanalEnd bare = with("w5;m10");
        bare.reading(0, 100, false, 99);
        due("17 of no outlets, so", bare.fits(), 1);
        bare.reading(0, 100, false, 100);
        due("17 of no outlets, not so", bare.fits(), 0);
        due("17 the most", with("w5;m00o11o11o11o11;m00o11o11o11o11").fits(), 6561);
    }

    private static void gaugesThatTell() {
        CanalEnd x = with(THREE);
        due("20 the mile", x.tells(40, false, 0), 2);
        due("20 at the worst", x.tells(40, false, 1), 8);
        x.reading(2, 40, false, 14);
        due("20 nothing more by day", x.tells(40, false, 1), 8);
        due("20 of several the least", x.tells(40, false, 0), 0);
        due("20 f -1", x.tells(-1, false, 0), CanalEnd.OUTSIDE);
        due("20 f 10000", x.tells(10000, false, 0), CanalEnd.OUTSIDE);
        due("20 what -1", x.tells(1, false, -1), CanalEnd.OUTSIDE);
        due("20 what 2", x.tells(1, false, 2), CanalEnd.OUTSIDE);
        due("20 all dry", x.tells(0, true, 1), 8);
        due("17 fits as before", x.fits(), 8);
        due("20 no canal", new CanalEnd().tells(1, false, 0), CanalEnd.STATE);
        due("20 no canal, f", new CanalEnd().tells(-1, false, 0), CanalEnd.OUTSIDE);
        CanalEnd y = with("w99;m00;m00o10");
        due("20 a mile without outlets tells nothing", y.tells(99, true, 0), 1);
        due("20 one left of each", y.tells(9999, true, 1), 2);
    }

    private static void people() {
        CanalEnd x = with(THREE);
        due("21 all content", x.settle(40), 0);
        x.needs(0, 9);
        x.needs(2, 17);
        due("21 at once for those that follow", x.settle(40), 2);
        due("21 low", x.ofOutlet(0, 0), 1);
        due("21 low too", x.ofOutlet(2, 0), 1);
        due("21 settled", x.settle(40), 0);
        x.needs(1, 999);
        x.guard(1, true);
        due("21 guarded", x.settle(40), 0);
        x.guard(1, false);
        due("21 to the last kind", x.settle(40), 2);
        due("21 nightly", x.ofOutlet(1, 0), 2);
        due("21 just enough", with(THREE).settle(0), 0);
        due("21 f -1", x.settle(-1), CanalEnd.OUTSIDE);
        due("21 f 10000", x.settle(10000), CanalEnd.OUTSIDE);
        due("21 no canal", new CanalEnd().settle(1), CanalEnd.STATE);
        due("21 no canal, f", new CanalEnd().settle(-1), CanalEnd.OUTSIDE);
        CanalEnd y = with(THREE);
        y.needs(0, 8);
        due("21 as much as it needs", y.settle(40), 0);
    }

    private static void things() {
        CanalEnd x = with(THREE);
        int[][] end = {{46, 46, 46}, {56, 46, 58}, {44, 46, 46}};
        for (int sort = 0; sort < 3; sort++) {
            for (int k = 0; k < 3; k++) {
                due("22 brings " + sort + " " + k, x.brings(sort, k, 40), end[sort][k]);
            }
        }
        due("23 best", x.best(40), 102);
        x.needs(2, 20);
        due("22 people settle then", x.brings(1, 2, 40), 49);
        due("22 nothing else changes", x.many(3), 0);
        due("22 silt stays", x.ofMile(2, 1), 3);
        due("23 best then", x.best(40), 100);
        due("23 of several the first", x.best(0), 0);
        x.kind(0, 2);
        x.needs(0, 999);
        due("22 mended and guarded", x.brings(0, 0, 40), 46);
        due("22 not guarded after", x.many(4), 0);
        due("22 kind stays", x.ofOutlet(0, 0), 2);
        due("22 no sort -1", x.brings(-1, 0, -1), CanalEnd.UNKNOWN);
        due("22 no sort 3", x.brings(3, 0, -1), CanalEnd.UNKNOWN);
        for (int sort = 0; sort < 3; sort++) {
            due("22 no k", x.brings(sort, 3, -1), CanalEnd.UNKNOWN);
            due("22 no k below", x.brings(sort, -1, -1), CanalEnd.UNKNOWN);
            due("22 f -1", x.brings(sort, 0, -1), CanalEnd.OUTSIDE);
            due("22 f 10000", x.brings(sort, 0, 10000), CanalEnd.OUTSIDE);
        }
        due("23 f", x.best(10000), CanalEnd.OUTSIDE);
        due("23 no canal", new CanalEnd().best(1), CanalEnd.STATE);
        due("23 no outlets", with("w5;m00").best(1), 100);
        due("23 line", with("w5;m00;m90").best(100), 201);
    }

    private static void digging() {
        CanalEnd x = with(THREE);
        due("24 less", x.gains(0, 0, 60), -8);
        due("24 less too", x.gains(0, 1, 60), -4);
        due("24 more", x.gains(0, 2, 60), 4);
        due("24 no mile", x.gains(3, 0, 60), LOST);
        due("24 no outlet", x.gains(0, 3, 60), LOST);
        due("24 f", x.gains(0, 0, 10000), LOST);
        due("25 worth it", x.holds(0, 4, 1, 3, 60), 1);
        due("25 one would come", x.holds(0, 0, 1, 3, 60), 0);
        due("25 one would stay away", x.holds(0, 1, 1, 3, 60), 0);
        due("25 no more is no more", x.holds(0, 0, 1, 4, 60), 1);
        due("25 nor less", x.holds(0, 4, 1, 4, 60), 1);
        due("25 too few", x.holds(0, 4, 2, 1, 60), 0);
        due("25 no mile", x.holds(3, -1, 0, -1, -1), CanalEnd.UNKNOWN);
        due("25 a bit of none", x.holds(0, 8, 1, 1, 60), CanalEnd.OUTSIDE);
        due("25 a far bit", x.holds(0, Integer.MIN_VALUE, 1, 1, 60), CanalEnd.OUTSIDE);
        due("25 d 0", x.holds(0, 0, 0, 1, 60), CanalEnd.OUTSIDE);
        due("25 d 9", x.holds(0, 0, 9, 1, 60), CanalEnd.OUTSIDE);
        due("25 c -1", x.holds(0, 0, 1, -1, 60), CanalEnd.OUTSIDE);
        due("25 c 1000", x.holds(0, 0, 1, 1000, 60), CanalEnd.OUTSIDE);
        due("25 f -1", x.holds(0, 0, 1, 1, -1), CanalEnd.OUTSIDE);
        int[][] rows = {{1, 3, 1, 4}, {1, 4, 2, 4}, {1, 0, 5, 7}, {2, 0, 3, 7}, {4, 0, 8, 7}, {4, 1, 1, 0}};
        for (int[] row : rows) {
            due("26 how many", x.digs(0, row[0], row[1], 60, 0), row[2]);
            due("26 most", x.digs(0, row[0], row[1], 60, 1), row[3]);
        }
        due("26 no mile", x.digs(-1, 0, -1, -1, 9), CanalEnd.UNKNOWN);
        due("26 d", x.digs(0, 9, 1, 60, 0), CanalEnd.OUTSIDE);
        due("26 c", x.digs(0, 1, 1000, 60, 0), CanalEnd.OUTSIDE);
        due("26 f", x.digs(0, 1, 1, 10000, 0), CanalEnd.OUTSIDE);
        due("26 what", x.digs(0, 1, 1, 60, 2), CanalEnd.OUTSIDE);
        due("26 silt stays", x.ofMile(0, 1), 2);
        CanalEnd bare = with("w5;m03");
        due("25 of no outlets", bare.holds(0, 0, 1, 0, 9), 1);
        due("26 of no outlets", bare.digs(0, 1, 0, 9, 0), 1);
        due("26 most of no outlets", bare.digs(0, 1, 0, 9, 1), 0);
    }

    private static void evenHeights() {
        CanalEnd x = with("w10;m00o10o10");
        x.kind(0, 2);
        due("27 alike", x.even(10, -1), 0);
        due("27 height 0", x.even(10, 0), 5);
        due("27 height 1", x.even(10, 1), 0);
        due("27 there is none", x.even(10, 2), CanalEnd.NONE);
        due("27 nor here", x.even(10, 3), CanalEnd.NONE);
        due("27 dry", x.even(0, 0), 0);
        due("27 k -2", x.even(-1, -2), CanalEnd.UNKNOWN);
        due("27 k 4", x.even(-1, 4), CanalEnd.UNKNOWN);
        due("27 f", x.even(10000, 3), CanalEnd.OUTSIDE);
        due("27 heights stay", x.ofOutlet(0, 3), 0);
        due("27 kinds stay", x.ofOutlet(0, 0), 2);
        due("27 no outlets", with("w5;m00").even(1, 0), CanalEnd.STATE);
        due("27 five", with("w5;m00o11o11o11o11o11").even(1, 0), CanalEnd.STATE);
        due("27 one", with("w5;m00o13").even(9999, -1), 0);
        due("27 no canal", new CanalEnd().even(1, 0), CanalEnd.STATE);
        CanalEnd y = with("w12;m22o13;m15o24;m00o11;m09o32");
        int[] heights = {8, 9, 0, 0};
        due("27 four", y.even(20, -1), 9);
        for (int k = 0; k < 4; k++) {
            due("27 four, height " + k, y.even(20, k), heights[k]);
        }
    }

    private static void guards() {
        CanalEnd x = with(THREE);
        due("28 tempts 0", x.tempts(0, 40), 11);
        due("28 tempts 1", x.tempts(1, 40), 8);
        due("28 tempts 2", x.tempts(2, 40), 7);
        due("28 dry", x.tempts(2, 0), 0);
        due("28 no outlet", x.tempts(3, -1), CanalEnd.UNKNOWN);
        due("28 f", x.tempts(0, 10000), CanalEnd.OUTSIDE);
        due("29 the two of least odds", x.kept(1, 10, 40), 6);
        due("29 all", x.kept(2, 10, 40), 7);
        due("29 one", x.kept(1, 1, 40), 4);
        due("29 two", x.kept(2, 1, 40), 6);
        due("29 three", x.kept(3, 1, 40), 7);
        due("29 nothing tempts", x.kept(1, 1, 0), 7);
        x.kind(2, 1);
        due("28 of others", x.tempts(2, 40), 0);
        due("29 kept anyhow", x.kept(1, 1, 40), 6);
        due("28 others as they are", x.tempts(0, 40), 11);
        due("29 kinds stay", x.many(3), 1);
        for (int g : new int[] {0, 4}) {
            due("29 g", x.kept(g, 1, 40), CanalEnd.OUTSIDE);
        }
        for (int fine : new int[] {0, 100}) {
            due("29 fine", x.kept(1, fine, 40), CanalEnd.OUTSIDE);
        }
        for (int f : new int[] {-1, 10000}) {
            due("29 f", x.kept(1, 1, f), CanalEnd.OUTSIDE);
        }
        due("29 no canal", new CanalEnd().kept(1, 1, 1), 0);
        CanalEnd two = with("w99;m00o11o11");
        due("28 half", two.tempts(0, 9), 5);
        due("28 what is left", two.tempts(1, 9), 5);
        due("29 just enough", two.kept(1, 5, 9), 3);
        due("29 of several by number", two.kept(1, 4, 9), 1);
        CanalEnd thirds = with("w99;m00o10o53");
        due("28 a third", thirds.tempts(0, 99), 5);
        due("28 two thirds", thirds.tempts(1, 99), 20);
        due("29 a millionth more, if anything is left over", thirds.kept(1, 10, 99), 1);
        due("29 enough for both", thirds.kept(1, 11, 99), 3);
    }

    private static void sheets() {
        CanalEnd x = new CanalEnd();
        due("30 bytes", x.sheet(0, 0, 2), 1);
        due("30 shorts", x.sheet(1, 1, 100), 1);
        due("30 ints", x.sheet(2, 2, 0), 1);
        due("32 no cell", x.put(2, 0, 1), INDEX);
        due("32 byte", x.put(0, 1, 128), 1);
        due("33 byte", x.cell(0, 1, 0), -128);
        x.put(0, 1, 65535);
        due("33 byte below", x.cell(0, 1, 0), -1);
        due("32 short", x.put(1, 99, 32768), 1);
        due("33 short", x.cell(1, 99, 1), -32768);
        x.put(1, 99, 65536 + 7);
        due("33 short cut", x.cell(1, 99, 1), 7);
        x.sheet(2, 2, 1);
        x.put(2, 0, Integer.MIN_VALUE);
        due("33 int", x.cell(2, 0, 2), Integer.MIN_VALUE);
        due("33 0 at first", x.cell(0, 0, 0), 0);
        due("30 anew", x.sheet(0, 0, 2), 1);
        due("33 0 again", x.cell(0, 1, 0), 0);
        due("30 no sheet", x.sheet(-1, 9, -1), CanalEnd.UNKNOWN);
        due("30 sort -1", x.sheet(0, -1, -1), CanalEnd.OUTSIDE);
        due("30 sort 3", x.sheet(0, 3, -1), CanalEnd.OUTSIDE);
        due("30 n 101", x.sheet(0, 0, 101), CanalEnd.OUTSIDE);
        due("30 size", x.sheet(0, 1, Integer.MIN_VALUE), SIZE);
        due("30 nothing changed", x.cell(0, 1, 0), 0);
        due("31 lose", x.lose(0), 1);
        due("31 had nothing", x.lose(0), 0);
        due("31 no sheet", x.lose(4), CanalEnd.UNKNOWN);
        due("31 no sheet below", x.lose(-1), CanalEnd.UNKNOWN);
        due("32 null", x.put(0, -1, 1), NULL);
        due("32 no sheet", x.put(4, 0, 1), CanalEnd.UNKNOWN);
        due("32 index -1", x.put(1, -1, 1), INDEX);
        due("32 index 100", x.put(1, 100, 1), INDEX);
        due("33 no sheet", x.cell(4, 0, 0), LOST);
        due("33 no sort", x.cell(1, 0, 3), LOST);
        due("33 no fault of it", x.fault(), 0);
        due("33 cast", x.cell(1, -1, 0), LOST);
        due("33 cast is the fault", x.fault(), 2);
        due("33 null", x.cell(0, -1, 1), LOST);
        due("33 null is the fault", x.fault(), 1);
        due("33 index", x.cell(1, 100, 1), LOST);
        due("33 index is the fault", x.fault(), 3);
    }

    private static void copies() {
        CanalEnd x = new CanalEnd();
        x.sheet(0, 2, 5);
        x.sheet(1, 2, 3);
        x.sheet(2, 1, 3);
        for (int i = 0; i < 5; i++) {
            x.put(0, i, i + 1);
        }
        due("34 up", x.copy(0, 0, 0, 1, 4), 4);
        int[] up = {1, 1, 2, 3, 4};
        for (int i = 0; i < 5; i++) {
            due("34 as they were, up", x.cell(0, i, 2), up[i]);
        }
        due("34 down", x.copy(0, 2, 0, 0, 3), 3);
        int[] down = {2, 3, 4, 3, 4};
        for (int i = 0; i < 5; i++) {
            due("34 as they were, down", x.cell(0, i, 2), down[i]);
        }
        due("34 to another", x.copy(0, 1, 1, 0, 3), 3);
        for (int i = 0; i < 3; i++) {
            due("34 there", x.cell(1, i, 2), down[i + 1]);
        }
        due("34 none", x.copy(0, 5, 1, 3, 0), 0);
        due("34 none, i beyond", x.copy(0, 6, 1, 3, 0), INDEX);
        due("34 none, j beyond", x.copy(0, 5, 1, 4, 0), INDEX);
        due("34 i below", x.copy(0, -1, 1, 0, 1), INDEX);
        due("34 j below", x.copy(0, 0, 1, -1, 1), INDEX);
        due("34 n below", x.copy(0, 0, 1, 0, -1), INDEX);
        due("34 from beyond", x.copy(0, 3, 1, 0, 3), INDEX);
        due("34 to beyond", x.copy(0, 0, 1, 1, 3), INDEX);
        due("34 far beyond", x.copy(0, 1, 1, 1, Integer.MAX_VALUE), INDEX);
        due("34 unlike sorts", x.copy(0, -1, 2, 0, 1), CAST);
        due("34 the first has nothing", x.copy(3, -1, 2, 0, 1), NULL);
        due("34 the other has nothing", x.copy(0, -1, 3, 0, 1), NULL);
        due("34 no sheet", x.copy(4, -1, 3, 0, 1), CanalEnd.UNKNOWN);
        due("34 no other", x.copy(3, -1, -1, 0, 1), CanalEnd.UNKNOWN);
        due("34 no fault of it", x.fault(), 0);
    }

    private static void parts() {
        CanalEnd x = with(THREE);
        due("35 right", x.tell(0), 2);
        due("38 right", x.trace(), 1);
        x.kind(0, 1);
        due("35 low", x.tell(0), 102);
        due("38 low", x.trace(), (1 * 31 + 2) * 31 + 1);
        CanalEnd y = with(THREE);
        y.kind(2, 2);
        due("35 nightly", y.tell(2), 104);
        int trace = ((3 * 31 + 2) * 31 + 1) * 31 + 1;
        due("38 nightly", y.trace(), trace);
        due("36 seen", y.see(1), 1);
        due("38 lent", y.trace(), trace * 31 + 4);
        due("36 seen nightly", y.see(2), 40);
        due("38 own", y.trace(), (trace * 31 + 4) * 31 + 5);
        y.kind(1, 1);
        due("36 a low one is lent it", y.see(1), 1);
        int wraps = y.trace();
        for (int k = 0; k < 20; k++) {
            due("35 again", y.tell(2), 104);
            wraps = (((wraps * 31 + 3) * 31 + 2) * 31 + 1) * 31 + 1;
            due("38 wraps", y.trace(), wraps);
        }
        for (int no : new int[] {-1, 3}) {
            due("35 no outlet", y.tell(no), CanalEnd.UNKNOWN);
            due("36 no outlet", y.see(no), CanalEnd.UNKNOWN);
            due("37 no outlet", y.as(no, 9), CanalEnd.UNKNOWN);
        }
        due("38 stays", y.trace(), wraps);
        for (int o = 0; o < 3; o++) {
            for (int kind = 0; kind < 3; kind++) {
                due("37 one of " + o + " as " + kind, y.as(o, kind), kind <= o ? 1 : CAST);
                due("37 fault", y.fault(), kind <= o ? 0 : 2);
            }
        }
        due("37 kind -1", y.as(0, -1), CanalEnd.OUTSIDE);
        due("37 kind 3", y.as(0, 3), CanalEnd.OUTSIDE);
    }

    private static void faults() {
        CanalEnd x = with(THREE);
        due("39 none", x.fault(), 0);
        x.put(0, 0, 0);
        due("39 null", x.fault(), 1);
        x.many(9);
        x.lose(9);
        x.turn(9, 9, 9);
        x.fits();
        x.trace();
        due("39 of the latest that names one", x.fault(), 1);
        x.sheet(9, 0, 0);
        due("39 refused", x.fault(), 0);
        x.sheet(0, 0, -1);
        due("39 size", x.fault(), 4);
        x.sheet(0, 0, 1);
        due("39 sheet", x.fault(), 0);
        x.put(0, 9, 0);
        due("39 index", x.fault(), 3);
        x.put(0, 0, 0);
        due("39 put", x.fault(), 0);
        x.as(0, 2);
        due("39 cast", x.fault(), 2);
        x.as(9, 2);
        due("39 as, refused", x.fault(), 0);
        x.copy(0, 9, 0, 0, 0);
        due("39 copy", x.fault(), 3);
        x.cell(0, 0, 9);
        due("39 cell, refused", x.fault(), 0);
        x.canal(0, 0, 0, -1);
        due("39 canal", x.fault(), 4);
        x.canal(0, 0, 0, 1);
        due("39 a fault of the text is none", x.fault(), 0);
        x.row(0, 1, 0, 0, 0);
        due("39 row", x.fault(), 2);
        x.row(0, 0, 0, 1, 0);
        due("39 row, none", x.fault(), 0);
    }

    private static void many() {
        CanalEnd x = with(THREE);
        due("40 miles", x.many(0), 3);
        due("40 outlets", x.many(1), 3);
        x.reading(0, 1, true, 1);
        x.reading(0, 1, true, 1);
        due("40 readings", x.many(2), 2);
        x.kind(0, 1);
        x.kind(2, 2);
        due("40 not right", x.many(3), 2);
        x.guard(1, true);
        due("40 guarded", x.many(4), 1);
        due("40 what -1", x.many(-1), CanalEnd.OUTSIDE);
        due("40 what 5", x.many(5), CanalEnd.OUTSIDE);
    }
}
