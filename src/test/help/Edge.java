import java.util.function.Supplier;

/**
 * What the tests of edges share: each case has a new object of its own (past 512 calls nothing is
 * promised of one), and says what is due of the call, of fault() behind it and of all that other
 * calls show then.
 */
final class Edge {
    static final int UNKNOWN = -1, OUTSIDE = -2, STATE = -3, FULL = -4, NONE = -9;
    static final int NULL = 1, CAST = 2, INDEX = 3, SIZE = 4;
    static final int BYTES = 0, SHORTS = 1, INTS = 2;
    static final long LOST = Long.MIN_VALUE;
    static final int LEAST = Integer.MIN_VALUE, MOST = Integer.MAX_VALUE;
    static final String THREE = "w99;m52o23o14;m00;m03o21";
    private static int asked = 0, wrong = 0;

    interface Call {
        long on(CanalEnd x);
    }

    interface CallOf {
        long on(CanalEnd x, int v);
    }

    private final String promise;
    private final Supplier<CanalEnd> start;
    private final boolean namesFaults;
    private final String shown;

    private Edge(String promise, Supplier<CanalEnd> start, boolean namesFaults) {
        this.promise = promise;
        this.start = start;
        this.namesFaults = namesFaults;
        this.shown = shows(start.get());
    }

    /** Of a call that names no FAULTS: it leaves fault() as it is. */
    static Edge of(String promise, Supplier<CanalEnd> start) {
        return new Edge(promise, start, false);
    }

    /** Of a call that names FAULTS: fault() tells its FAULT then, or 0. */
    static Edge ofFaults(String promise, Supplier<CanalEnd> start) {
        return new Edge(promise, start, true);
    }

    // ---- what is due

    static void due(String told, long got, long want) {
        asked++;
        if (got != want) {
            wrong++;
            System.out.println(told + " answered " + got + ", due is " + want);
        }
    }

    /** It answers so; what else it does is not looked at. */
    void does(String told, Call call, long want) {
        ask(told, call, want, 0);
    }

    /** It answers so, and then another call answers so. */
    void then(String told, Call call, long want, Call look, long seen) {
        CanalEnd x = ask(told, call, want, 0);
        due(promise + ": " + told + ", seen behind it,", look.on(x), seen);
    }

    /** It answers so, and changes nothing. */
    void asks(String told, Call call, long want) {
        unchanged(told, ask(told, call, want, 0));
    }

    void refused(String told, Call call, long want) {
        unchanged(told, ask(told, call, want, 0));
    }

    void faulty(String told, Call call, int fault) {
        unchanged(told, ask(told, call, -10 - fault, fault));
    }

    /** A FAULT of a call that answers a long. */
    void lost(String told, Call call, int fault) {
        unchanged(told, ask(told, call, LOST, fault));
    }

    /** The least and the most are taken; what is next to them, and what is farthest, is refused. */
    void bounds(String told, CallOf call, int least, int most, long refusal) {
        for (int v : new int[] {least, most}) {
            long got = call.on(start.get(), v);
            asked++;
            if (got == refusal) {
                wrong++;
                System.out.println(promise + ": " + told + " " + v + " is refused: " + got);
            }
        }
        for (int v : new int[] {least - 1, most + 1, LEAST, MOST}) {
            refused(told + " " + v, x -> call.on(x, v), refusal);
        }
    }

    private CanalEnd ask(String told, Call call, long want, int fault) {
        CanalEnd x = start.get();
        int before = leaveFault(x, fault);
        due(promise + ": " + told, call.on(x), want);
        due(promise + ": " + told + ", fault() then,", x.fault(), namesFaults ? fault : before);
        return x;
    }

    /** Another FAULT than the one that is due stands ahead of the call, so that it is seen to go. */
    private static int leaveFault(CanalEnd x, int due) {
        if (due == SIZE) {
            x.put(0, -1, 0);
        } else {
            x.sheet(0, BYTES, -1);
        }
        int left = x.fault();
        if (left == 0 || left == due) {
            throw new IllegalStateException("no FAULT could be left");
        }
        return left;
    }

    private void unchanged(String told, CanalEnd x) {
        asked++;
        String now = shows(x);
        if (!now.equals(shown)) {
            wrong++;
            System.out.println(promise + ": " + told + " changed what is shown,\n  from " + shown + "\n  to   " + now);
        }
    }

    static void end() {
        System.out.println(asked + " answers looked at, " + wrong + " wrong");
        if (wrong != 0) {
            System.exit(1);
        }
    }

    // ---- what other calls show

    private static String shows(CanalEnd x) {
        StringBuilder all = new StringBuilder("trace " + x.trace());
        for (int what = 0; what <= 4; what++) {
            all.append(" many ").append(x.many(what));
        }
        for (int j = 0; j < x.many(0); j++) {
            all.append(" mile");
            for (int what = 0; what <= 3; what++) {
                all.append(' ').append(x.ofMile(j, what));
            }
            all.append(" level ").append(x.level(j, 999, false));
        }
        for (int o = 0; o < x.many(1); o++) {
            all.append(" outlet");
            for (int what = 0; what <= 5; what++) {
                all.append(' ').append(x.ofOutlet(o, what));
            }
            all.append(" takes ").append(x.takes(o, 60, true));
        }
        showSheets(x, all);
        showReadings(x, all);
        int syphon = x.syphon(0);
        x.syphon(syphon);
        return all.append(" syphon ").append(syphon).toString();
    }

    private static void showSheets(CanalEnd x, StringBuilder all) {
        for (int k = 0; k <= 3; k++) {
            all.append(" sheet");
            for (int sort = 0; sort <= 2; sort++) {
                x.cell(k, -1, sort);
                if (x.fault() == INDEX) {
                    all.append(" of ").append(sort);
                    long cell = x.cell(k, 0, sort);
                    for (int i = 1; cell != LOST; i++) {
                        all.append(' ').append(cell);
                        cell = x.cell(k, i, sort);
                    }
                }
            }
        }
    }

    private static void showReadings(CanalEnd x, StringBuilder all) {
        all.append(" fit ").append(x.fits());
        for (int left = x.many(2); left > 0; left--) {
            x.back(1);
            all.append(' ').append(x.fits());
        }
    }

    // ---- objects to begin with

    static void lay(CanalEnd x, int k, int sort, int... codes) {
        x.sheet(k, sort, codes.length);
        for (int i = 0; i < codes.length; i++) {
            x.put(k, i, codes[i]);
        }
    }

    static int[] codes(String text) {
        return text.chars().toArray();
    }

    /** A new object with this CANAL; its TEXT stays on SHEET 3, as shorts. */
    static CanalEnd with(String text) {
        CanalEnd x = new CanalEnd();
        lay(x, 3, SHORTS, codes(text));
        if (x.canal(3, SHORTS, 0, text.length()) < 1) {
            throw new IllegalStateException("no CANAL by " + text);
        }
        return x;
    }

    /** SHEET 0: three bytes, 1: four ints, 2: nothing. */
    private static CanalEnd laid(CanalEnd x) {
        lay(x, 0, BYTES, 40, -40, 127);
        lay(x, 1, INTS, 10000, -10000, 9999, -9999);
        return x;
    }

    /** SHEETS, but no CANAL; SHEET 3 has nothing either. */
    static CanalEnd noCanal() {
        return laid(new CanalEnd());
    }

    /**
     * Three MILES, three OUTLETS, two READINGS that FIT, and nothing as it is at first. What may be
     * kept from earlier questions is there, so that it is seen if it is not given up in time.
     */
    static CanalEnd busy() {
        CanalEnd x = laid(with(THREE));
        x.kind(1, 2);
        x.needs(0, 7);
        x.guard(2, true);
        x.syphon(8);
        x.reading(0, 40, false, 30);
        x.reading(2, 40, true, 14);
        x.tell(1);
        x.best(40);
        x.tells(40, true, 0);
        x.fits();
        return x;
    }

    /** As busy, with as many READINGS as there can be; all of them FIT. */
    static CanalEnd full() {
        CanalEnd x = busy();
        for (int k = 2; k < 10; k++) {
            x.reading(1, 40, false, 30);
        }
        x.fits();
        return x;
    }

    /** As busy, but no WORLD FITS. */
    static CanalEnd unfit() {
        CanalEnd x = busy();
        x.reading(0, 40, false, 29);
        x.fits();
        return x;
    }
}
