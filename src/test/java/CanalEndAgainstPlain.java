import java.lang.reflect.Method;
import java.util.ArrayList;
import java.util.Arrays;
import java.util.HashMap;
import java.util.List;
import java.util.Map;
import java.util.Random;
import java.util.regex.Matcher;
import java.util.regex.Pattern;

/**
 * Many runs of calls, made from fixed seeds, on CanalEnd and on a second program that follows the
 * document as slowly and plainly as it can: it goes through all WORLDS, all HEIGHTS, all prefixes.
 */
public final class CanalEndAgainstPlain {
    private static final int RUNS = 1200, CALLS = 220;
    private static final long LOST = Long.MIN_VALUE;

    public static void main(String[] args) throws Exception {
        int calls = 0;
        for (int seed = 1; seed <= RUNS; seed++) {
            Run run = new Run(seed);
            calls += run.go();
            if (run.isWrong) {
                System.out.println("the run of seed " + seed + ":");
                for (String line : run.told) {
                    System.out.println("  " + line);
                }
                System.exit(1);
            }
        }
        for (String name : Run.METHODS.keySet()) {
            if (!Run.ANSWERED.containsKey(name)) {
                System.out.println("no run got an answer of " + name);
                System.exit(1);
            }
        }
        System.out.println(calls + " calls in " + RUNS + " runs, all as the plain program answers");
    }

    /** One run of calls on both programs. */
    private static final class Run {
        static final Map<String, Method[]> METHODS = new HashMap<>();
        static final Map<String, Integer> ANSWERED = new HashMap<>();
        final Random random;
        final CanalEnd own = new CanalEnd();
        final Plain plain = new Plain();
        final List<String> told = new ArrayList<>();
        boolean isWrong = false;
        int[] truth = {0, 0, 0, 0, 0, 0, 0, 0};

        Run(int seed) throws Exception {
            random = new Random(seed);
            if (METHODS.isEmpty()) {
                for (Method m : CanalEnd.class.getDeclaredMethods()) {
                    if (java.lang.reflect.Modifier.isPublic(m.getModifiers())) {
                        Method other = Plain.class.getDeclaredMethod(m.getName(), m.getParameterTypes());
                        METHODS.put(m.getName(), new Method[] {m, other});
                    }
                }
            }
        }

        int go() throws Exception {
            String[] names = METHODS.keySet().toArray(new String[0]);
            Arrays.sort(names);
            loadText();
            while (told.size() < CALLS && !isWrong) {
                int dice = random.nextInt(100);
                if (dice < 2) {
                    loadText();
                } else if (dice < 6) {
                    loadHours();
                } else if (dice < 14) {
                    readTruth();
                } else if (dice < 18) {
                    askWorlds();
                } else {
                    String name = names[random.nextInt(names.length)];
                    call(name, arguments(name));
                }
            }
            return told.size();
        }

        void call(String name, Object... args) throws Exception {
            Method[] both = METHODS.get(name);
            long got = ((Number) both[0].invoke(own, args)).longValue();
            long due = ((Number) both[1].invoke(plain, args)).longValue();
            told.add(name + Arrays.toString(args) + " = " + got + (got == due ? "" : ", due " + due));
            isWrong |= got != due;
            if (due >= 0) {
                ANSWERED.merge(name, 1, Integer::sum);
            }
        }

        void loadText() throws Exception {
            String text = randomText();
            int k = random.nextInt(4);
            int sort = random.nextInt(3);
            int ahead = random.nextInt(3);
            int n = Math.min(100, ahead + text.length() + random.nextInt(3));
            call("sheet", k, sort, n);
            int length = Math.min(text.length(), n - ahead);
            for (int i = 0; i < length; i++) {
                call("put", k, ahead + i, (int) text.charAt(i));
            }
            call("canal", k, sort, ahead, length);
            for (int o = 0; o < 8; o++) {
                truth[o] = random.nextInt(3);
            }
        }

        String randomText() {
            StringBuilder text = new StringBuilder("w");
            text.append(random.nextInt(3) == 0 ? random.nextInt(120) : 20 + random.nextInt(80));
            int miles = 1 + random.nextInt(random.nextInt(4) == 0 ? 11 : 4);
            int outlets = random.nextInt(random.nextInt(6) == 0 ? 10 : 6);
            for (int j = 0; j < miles; j++) {
                text.append(";m").append(random.nextInt(10)).append(random.nextInt(10));
                int here = j == miles - 1 ? outlets : random.nextInt(outlets + 1) / (1 + random.nextInt(2));
                outlets -= here;
                for (int o = 0; o < here; o++) {
                    int size = random.nextInt(3) == 0 ? 1 + random.nextInt(9) : 1 + random.nextInt(2);
                    text.append('o').append(size).append(random.nextInt(10));
                }
            }
            if (random.nextInt(5) == 0) {
                String codes = "wmo;0123456789 x";
                int at = random.nextInt(text.length());
                int how = random.nextInt(3);
                if (how == 0) {
                    text.setLength(at);
                } else if (how == 1) {
                    text.setCharAt(at, codes.charAt(random.nextInt(codes.length())));
                } else {
                    text.insert(at, codes.charAt(random.nextInt(codes.length())));
                }
            }
            return text.toString();
        }

        void loadHours() throws Exception {
            int k = random.nextInt(4);
            int n = random.nextInt(6);
            int sort = 1 + random.nextInt(2);
            call("sheet", k, sort, n);
            for (int i = 0; i < n; i++) {
                call("put", k, i, random.nextInt(40) == 0 ? 10000 : random.nextBoolean() ? water() : -water());
            }
            call("row", k, sort, 0, n, random.nextBoolean() ? random.nextInt(5) : 10 + random.nextInt(9));
        }

        /** A READING as it would be in a fixed WORLD, so that something FITS. */
        void readTruth() throws Exception {
            if (plain.miles.size() == 0) {
                return;
            }
            int j = random.nextInt(plain.miles.size());
            int f = water();
            boolean night = random.nextBoolean();
            if (f < 0 || f > 9999) {
                return;
            }
            int v = plain.run(f, night, truth).behind[j];
            call("reading", j, f, night, v);
        }

        void askWorlds() throws Exception {
            call("fits");
            int o = index(plain.outlets.size());
            call("sure", o);
            call("guilt", o, 0);
            call("guilt", o, 1);
            int f = water();
            boolean night = random.nextBoolean();
            call("tells", f, night, 0);
            call("tells", f, night, 1);
        }

        int water() {
            switch (random.nextInt(12)) {
                case 0:
                    return random.nextInt(10000);
                case 1:
                    return random.nextBoolean() ? 9999 : 0;
                case 2:
                    return random.nextInt(4) > 0 ? 100 : new int[] {-1, 10000, Integer.MIN_VALUE, Integer.MAX_VALUE}[random.nextInt(4)];
                case 3:
                case 4:
                case 5:
                    return random.nextInt(100);
                default:
                    return random.nextInt(700);
            }
        }

        int index(int many) {
            if (random.nextInt(12) == 0) {
                return new int[] {-1, many, many + 1, Integer.MIN_VALUE, Integer.MAX_VALUE}[random.nextInt(5)];
            }
            return many == 0 ? 0 : random.nextInt(many);
        }

        /** Mostly 0 .. most, sometimes just outside. */
        int upTo(int most) {
            return index(most + 1);
        }

        Object[] arguments(String name) {
            int j = index(plain.miles.size());
            int o = index(plain.outlets.size());
            boolean night = random.nextBoolean();
            int k = index(4);
            int sort = random.nextInt(4) > 0 && k >= 0 && k < 4 && plain.sheets[k] != null ? plain.sorts[k] : upTo(2);
            switch (name) {
                case "canal": return new Object[] {k, sort, upTo(3), upTo(30)};
                case "ofMile": return new Object[] {j, upTo(3)};
                case "turn": return new Object[] {j, upTo(1), upTo(9)};
                case "ofOutlet": return new Object[] {o, upTo(5)};
                case "kind": return new Object[] {o, upTo(2)};
                case "needs": return new Object[] {o, random.nextBoolean() ? upTo(60) : upTo(999)};
                case "guard": return new Object[] {o, random.nextInt(4) == 0};
                case "syphon": return new Object[] {random.nextBoolean() ? upTo(99) : upTo(12)};
                case "behind": case "seeps": case "level": return new Object[] {j, water(), night};
                case "takes": return new Object[] {o, water(), night};
                case "row": return new Object[] {k, sort, upTo(3), upTo(5), random.nextBoolean() ? upTo(4) : 8 + upTo(9)};
                case "reading": return new Object[] {j, water(), night, water()};
                case "back": return new Object[] {upTo(plain.readings.size())};
                case "fits": case "trace": case "fault": return new Object[] {};
                case "sure": case "tell": case "see": return new Object[] {o};
                case "guilt": return new Object[] {o, upTo(1)};
                case "tells": return new Object[] {water(), night, upTo(1)};
                case "settle": case "best": return new Object[] {water()};
                case "brings": return brings();
                case "gains": return new Object[] {j, o, water()};
                case "holds": return new Object[] {j, upTo((1 << plain.outlets.size()) - 1), 1 + index(5), random.nextInt(3) == 0 ? upTo(999) : upTo(9), water()};
                case "digs": return new Object[] {j, 1 + index(5), random.nextInt(3) == 0 ? upTo(999) : upTo(9), water(), upTo(1)};
                case "even": return new Object[] {water(), upTo(4) - 1};
                case "tempts": return new Object[] {o, water()};
                case "kept": return new Object[] {1 + index(3), 1 + index(99), water()};
                case "sheet": return new Object[] {k, upTo(2), random.nextInt(3) == 0 ? upTo(100) : upTo(8)};
                case "lose": return new Object[] {random.nextInt(4) == 0 ? k : 9};
                case "put": return new Object[] {k, upTo(9), random.nextBoolean() ? random.nextInt() : random.nextInt(128)};
                case "cell": return new Object[] {k, upTo(9), sort};
                case "copy": return new Object[] {k, upTo(4), index(4), upTo(4), upTo(5)};
                case "as": return new Object[] {o, upTo(2)};
                case "many": return new Object[] {upTo(4)};
                default: throw new IllegalStateException(name);
            }
        }

        Object[] brings() {
            int sort = upTo(2);
            return new Object[] {sort, index(sort == 0 ? plain.outlets.size() : plain.miles.size()), water()};
        }
    }

    /** An HOUR, as it went. */
    private static final class Went {
        final int[] seeps = new int[10], level = new int[10], behind = new int[10], takes = new int[8];
        int end;
    }

    /** The document, plainly. */
    private static final class Plain {
        static final Pattern TEXT = Pattern.compile("w[0-9]{1,2}(;m[0-9][0-9](o[1-9][0-9])*){1,10}");
        int width;
        List<int[]> miles = new ArrayList<>();
        List<int[]> outlets = new ArrayList<>();
        List<int[]> readings = new ArrayList<>();
        int syphoning = 5;
        int[][] sheets = new int[4][];
        int[] sorts = new int[4];
        int fault = 0, trace = 0;

        // an OUTLET: kind, MILE, SIZE, HEIGHT, NEEDS, GUARDED; a MILE: SEEP, SILT

        static boolean goesOn(String start) {
            Matcher m = TEXT.matcher(start);
            boolean whole = m.matches();
            return (whole || m.hitEnd()) && start.chars().filter(c -> c == 'o').count() <= 8;
        }

        static int firstFault(String text) {
            Matcher zero = Pattern.compile("w(0|00)(?![0-9]).*|w00.*", Pattern.DOTALL).matcher(text);
            if (zero.matches()) {
                return 1;
            }
            for (int n = 0; n < text.length(); n++) {
                if (!goesOn(text.substring(0, n + 1))) {
                    return n;
                }
            }
            return TEXT.matcher(text).matches() ? -1 : text.length();
        }

        int refusedRow(int sheet, int sort, int i, int n) {
            fault = 0;
            if (sheet < 0 || sheet > 3) {
                return -1;
            }
            if (sort < 0 || sort > 2) {
                return -2;
            }
            if (sheets[sheet] != null && sorts[sheet] != sort) {
                fault = 2;
            } else if (sheets[sheet] == null) {
                fault = 1;
            } else if (n < 0) {
                fault = 4;
            } else if (i < 0 || (long) i + n > sheets[sheet].length) {
                fault = 3;
            }
            return fault == 0 ? 0 : -10 - fault;
        }

        public int canal(int sheet, int sort, int i, int n) {
            int refused = refusedRow(sheet, sort, i, n);
            if (refused != 0) {
                return refused;
            }
            StringBuilder text = new StringBuilder();
            for (int at = i; at < i + n; at++) {
                int code = sheets[sheet][at];
                text.append(code >= 0 && code < 128 ? (char) code : '?');
            }
            int place = firstFault(text.toString());
            if (place >= 0) {
                return -100 - place;
            }
            String[] told = text.toString().split(";");
            width = Integer.parseInt(told[0].substring(1));
            miles = new ArrayList<>();
            outlets = new ArrayList<>();
            readings = new ArrayList<>();
            for (int j = 1; j < told.length; j++) {
                String[] pipes = told[j].split("o");
                miles.add(new int[] {pipes[0].charAt(1) - '0', pipes[0].charAt(2) - '0'});
                for (int o = 1; o < pipes.length; o++) {
                    outlets.add(new int[] {0, j - 1, pipes[o].charAt(0) - '0', pipes[o].charAt(1) - '0', 0, 0});
                }
            }
            return miles.size();
        }

        boolean noMile(int j) {
            return j < 0 || j >= miles.size();
        }

        boolean noOutlet(int o) {
            return o < 0 || o >= outlets.size();
        }

        static boolean out(int v, int least, int most) {
            return v < least || v > most;
        }

        public int ofMile(int j, int what) {
            if (noMile(j)) {
                return -1;
            }
            if (out(what, 0, 3)) {
                return -2;
            }
            if (what < 2) {
                return miles.get(j)[what];
            }
            int first = -9;
            int count = 0;
            for (int o = outlets.size() - 1; o >= 0; o--) {
                if (outlets.get(o)[1] == j) {
                    first = o;
                    count++;
                }
            }
            return what == 2 ? first : count;
        }

        public int turn(int j, int what, int v) {
            if (noMile(j)) {
                return -1;
            }
            if (out(what, 0, 1) || out(v, 0, 9)) {
                return -2;
            }
            int was = miles.get(j)[what];
            miles.get(j)[what] = v;
            return was;
        }

        public int ofOutlet(int o, int what) {
            return noOutlet(o) ? -1 : out(what, 0, 5) ? -2 : outlets.get(o)[what];
        }

        int change(int o, int what, int v, int most) {
            if (noOutlet(o)) {
                return -1;
            }
            if (out(v, 0, most)) {
                return -2;
            }
            int was = outlets.get(o)[what];
            outlets.get(o)[what] = v;
            return was;
        }

        public int kind(int o, int v) {
            return change(o, 0, v, 2);
        }

        public int needs(int o, int v) {
            return change(o, 4, v, 999);
        }

        public int guard(int o, boolean is) {
            int was = change(o, 5, is ? 1 : 0, 1);
            return was < 0 ? was : (was == 1) == is ? 0 : 1;
        }

        public int syphon(int v) {
            if (out(v, 0, 99)) {
                return -2;
            }
            int was = syphoning;
            syphoning = v;
            return was;
        }

        int[] kinds() {
            return outlets.stream().mapToInt(o -> o[0]).toArray();
        }

        int takenBy(int o, int kind, int level, boolean night) {
            int height = outlets.get(o)[3];
            if (kind >= 1) {
                height = height < 3 ? 0 : height - 3;
            }
            int takes = 0;
            if (level > height) {
                takes = outlets.get(o)[2] * (level - height);
            }
            if (kind == 2 && night) {
                takes += syphoning;
            }
            return takes;
        }

        Went run(int f, boolean night, int[] kinds) {
            Went went = new Went();
            int water = f;
            for (int j = 0; j < miles.size(); j++) {
                went.seeps[j] = (int) Math.floor(water * miles.get(j)[0] / 100.0 + 1e-9);
                water -= went.seeps[j];
                went.level[j] = Math.floorDiv(10 * water, width) + miles.get(j)[1];
                for (int o = 0; o < outlets.size(); o++) {
                    if (outlets.get(o)[1] == j) {
                        went.takes[o] = Math.min(water, takenBy(o, kinds[o], went.level[j], night));
                        water -= went.takes[o];
                    }
                }
                went.behind[j] = water;
            }
            went.end = water;
            return went;
        }

        Went run(int f, boolean night) {
            return run(f, night, kinds());
        }

        public int behind(int j, int f, boolean night) {
            return noMile(j) ? -1 : out(f, 0, 9999) ? -2 : run(f, night).behind[j];
        }

        public int seeps(int j, int f, boolean night) {
            return noMile(j) ? -1 : out(f, 0, 9999) ? -2 : run(f, night).seeps[j];
        }

        public int level(int j, int f, boolean night) {
            return noMile(j) ? -1 : out(f, 0, 9999) ? -2 : run(f, night).level[j];
        }

        public int takes(int o, int f, boolean night) {
            return noOutlet(o) ? -1 : out(f, 0, 9999) ? -2 : run(f, night).takes[o];
        }

        public int row(int sheet, int sort, int i, int n, int what) {
            int refused = refusedRow(sheet, sort, i, n);
            if (refused != 0) {
                return refused;
            }
            int[] sums = new int[18];
            boolean isOut = false;
            for (int at = i; at < i + n; at++) {
                int f = sheets[sheet][at];
                if (out(f, -9999, 9999)) {
                    isOut = true;
                    continue;
                }
                Went went = run(Math.abs(f), f < 0);
                sums[0] += Math.abs(f);
                sums[1] += Arrays.stream(went.seeps).sum();
                sums[2] += Arrays.stream(went.takes).sum();
                sums[3] += went.end;
                for (int o = 0; o < outlets.size(); o++) {
                    sums[10 + o] += went.takes[o];
                }
            }
            boolean known = what >= 0 && what <= 3 || what >= 10 && what < 10 + outlets.size();
            return isOut || !known ? -2 : miles.isEmpty() ? -3 : sums[what];
        }

        public int reading(int j, int f, boolean night, int v) {
            if (noMile(j)) {
                return -1;
            }
            if (out(f, 0, 9999) || out(v, 0, 9999)) {
                return -2;
            }
            if (readings.size() == 10) {
                return -4;
            }
            readings.add(new int[] {j, f, night ? 1 : 0, v});
            return readings.size() - 1;
        }

        public int back(int k) {
            if (out(k, 0, readings.size())) {
                return -2;
            }
            for (int n = 0; n < k; n++) {
                readings.remove(readings.size() - 1);
            }
            return readings.size();
        }

        List<int[]> fitting() {
            List<int[]> worlds = new ArrayList<>();
            int all = (int) Math.pow(3, outlets.size());
            for (int number = 0; number < all; number++) {
                int[] world = new int[outlets.size()];
                int rest = number;
                for (int o = 0; o < world.length; o++) {
                    world[o] = rest % 3;
                    rest /= 3;
                }
                boolean fits = true;
                for (int[] r : readings) {
                    fits = fits && run(r[1], r[2] == 1, world).behind[r[0]] == r[3];
                }
                if (fits) {
                    worlds.add(world);
                }
            }
            return worlds;
        }

        public int fits() {
            return miles.isEmpty() ? -3 : fitting().size();
        }

        public int sure(int o) {
            if (noOutlet(o)) {
                return -1;
            }
            int[] kinds = fitting().stream().mapToInt(w -> w[o]).distinct().toArray();
            return kinds.length == 1 ? kinds[0] : -9;
        }

        public long guilt(int o, int which) {
            if (noOutlet(o) || out(which, 0, 1)) {
                return LOST;
            }
            List<int[]> worlds = fitting();
            if (worlds.isEmpty()) {
                return LOST;
            }
            long upper = worlds.stream().filter(w -> w[o] != 0).count();
            long lower = worlds.size();
            for (long d = lower; d > 1; d--) {
                if (upper % d == 0 && lower % d == 0) {
                    upper /= d;
                    lower /= d;
                }
            }
            return which == 0 ? upper : lower;
        }

        public int tells(int f, boolean night, int what) {
            if (out(f, 0, 9999) || out(what, 0, 1)) {
                return -2;
            }
            List<int[]> worlds = miles.isEmpty() ? List.of() : fitting();
            if (worlds.isEmpty()) {
                return -3;
            }
            int mile = -1;
            int fewest = Integer.MAX_VALUE;
            for (int j = 0; j < miles.size(); j++) {
                Map<Integer, Integer> left = new HashMap<>();
                int worst = 0;
                for (int[] world : worlds) {
                    worst = Math.max(worst, left.merge(run(f, night, world).behind[j], 1, Integer::sum));
                }
                if (worst < fewest) {
                    fewest = worst;
                    mile = j;
                }
            }
            return what == 0 ? mile : fewest;
        }

        int dayOf(int o, int f) {
            return run(f, false).takes[o] + run(f, true).takes[o];
        }

        public int settle(int f) {
            if (out(f, 0, 9999)) {
                return -2;
            }
            if (miles.isEmpty()) {
                return -3;
            }
            int changes = 0;
            int before;
            do {
                before = changes;
                for (int o = 0; o < outlets.size(); o++) {
                    int[] one = outlets.get(o);
                    if (dayOf(o, f) < one[4] && one[5] == 0 && one[0] < 2) {
                        one[0]++;
                        changes++;
                    }
                }
            } while (changes > before);
            return changes;
        }

        static List<int[]> deep(List<int[]> rows) {
            List<int[]> copy = new ArrayList<>();
            for (int[] r : rows) {
                copy.add(r.clone());
            }
            return copy;
        }

        public int brings(int sort, int k, int f) {
            if (out(sort, 0, 2) || (sort == 0 ? noOutlet(k) : noMile(k))) {
                return -1;
            }
            if (out(f, 0, 9999)) {
                return -2;
            }
            List<int[]> keptMiles = deep(miles);
            List<int[]> keptOutlets = deep(outlets);
            if (sort == 0) {
                outlets.get(k)[0] = 0;
                outlets.get(k)[5] = 1;
            } else {
                miles.get(k)[sort == 1 ? 1 : 0] = 0;
            }
            settle(f);
            int end = run(f, false).end + run(f, true).end;
            miles = keptMiles;
            outlets = keptOutlets;
            return end;
        }

        public int best(int f) {
            if (out(f, 0, 9999)) {
                return -2;
            }
            if (miles.isEmpty()) {
                return -3;
            }
            int thing = -1;
            int most = -1;
            for (int number = 0; number < 300; number++) {
                int end = brings(number / 100, number % 100, f);
                if (end > most) {
                    most = end;
                    thing = number;
                }
            }
            return thing;
        }

        int dayOf(int o, int f, int j, boolean dug) {
            int silt = miles.get(j)[1];
            if (dug) {
                miles.get(j)[1] = 0;
            }
            int got = dayOf(o, f);
            miles.get(j)[1] = silt;
            return got;
        }

        public long gains(int j, int o, int f) {
            return noMile(j) || noOutlet(o) || out(f, 0, 9999) ? LOST : dayOf(o, f, j, true) - dayOf(o, f, j, false);
        }

        int has(int o, int set, int j, int d, int c, int f) {
            int pays = (set & 1 << o) != 0 ? c : 0;
            return dayOf(o, f, j, Integer.bitCount(set) >= d) - pays;
        }

        public int holds(int j, int set, int d, int c, int f) {
            if (noMile(j)) {
                return -1;
            }
            if (out(set, 0, (1 << outlets.size()) - 1) || out(d, 1, 8) || out(c, 0, 999) || out(f, 0, 9999)) {
                return -2;
            }
            for (int o = 0; o < outlets.size(); o++) {
                if (has(o, set ^ 1 << o, j, d, c, f) > has(o, set, j, d, c, f)) {
                    return 0;
                }
            }
            return 1;
        }

        public int digs(int j, int d, int c, int f, int what) {
            if (noMile(j)) {
                return -1;
            }
            if (out(what, 0, 1) || holds(j, 0, d, c, f) < 0) {
                return -2;
            }
            int many = 0;
            int most = -9;
            for (int set = (1 << outlets.size()) - 1; set >= 0; set--) {
                if (holds(j, set, d, c, f) == 1) {
                    many++;
                    if (most < 0 || Integer.bitCount(set) >= Integer.bitCount(most)) {
                        most = set;
                    }
                }
            }
            return what == 0 ? many : most;
        }

        public int even(int f, int k) {
            if (out(k, -1, 3)) {
                return -1;
            }
            if (out(f, 0, 9999)) {
                return -2;
            }
            int n = outlets.size();
            if (n < 1 || n > 4) {
                return -3;
            }
            if (k >= n) {
                return -9;
            }
            List<int[]> kept = deep(outlets);
            int all = (int) Math.pow(10, n);
            int least = Integer.MAX_VALUE;
            int row = 0;
            for (int number = 0; number < all; number++) {
                int rest = number;
                for (int o = n - 1; o >= 0; o--) {
                    outlets.get(o)[3] = rest % 10;
                    rest /= 10;
                }
                int[] takes = Arrays.copyOf(run(f, false, new int[n]).takes, n);
                int spread = Arrays.stream(takes).max().getAsInt() - Arrays.stream(takes).min().getAsInt();
                if (spread < least) {
                    least = spread;
                    row = number;
                }
            }
            outlets = kept;
            return k < 0 ? least : String.format("%0" + n + "d", row).charAt(k) - '0';
        }

        public int tempts(int o, int f) {
            if (noOutlet(o)) {
                return -1;
            }
            if (out(f, 0, 9999)) {
                return -2;
            }
            if (outlets.get(o)[0] != 0) {
                return 0;
            }
            int[] kinds = kinds();
            int now = run(f, true, kinds).takes[o];
            kinds[o] = 2;
            return Math.max(0, run(f, true, kinds).takes[o] - now);
        }

        public int kept(int g, int fine, int f) {
            if (out(g, 1, 3) || out(fine, 1, 99) || out(f, 0, 9999)) {
                return -2;
            }
            List<long[]> order = new ArrayList<>();
            for (int o = 0; o < outlets.size(); o++) {
                long t = tempts(o, f);
                long odds = t * 1000000 / (t + fine);
                if (t * 1000000 % (t + fine) != 0) {
                    odds++;
                }
                order.add(new long[] {odds, o});
            }
            order.sort((a, b) -> a[0] != b[0] ? Long.compare(a[0], b[0]) : Long.compare(a[1], b[1]));
            int set = 0;
            long sum = 0;
            for (long[] one : order) {
                sum += one[0];
                if (sum > g * 1000000L) {
                    break;
                }
                set += 1 << one[1];
            }
            return set;
        }

        public int sheet(int k, int sort, int n) {
            fault = 0;
            if (out(k, 0, 3)) {
                return -1;
            }
            if (out(sort, 0, 2) || n > 100) {
                return -2;
            }
            if (n < 0) {
                fault = 4;
                return -14;
            }
            sheets[k] = new int[n];
            sorts[k] = sort;
            return 1;
        }

        public int lose(int k) {
            if (out(k, 0, 3)) {
                return -1;
            }
            int had = sheets[k] == null ? 0 : 1;
            sheets[k] = null;
            return had;
        }

        public int put(int k, int i, int v) {
            fault = 0;
            if (out(k, 0, 3)) {
                return -1;
            }
            if (sheets[k] == null) {
                fault = 1;
                return -11;
            }
            if (out(i, 0, sheets[k].length - 1)) {
                fault = 3;
                return -13;
            }
            int[] cut = {v << 24 >> 24, v << 16 >> 16, v};
            sheets[k][i] = cut[sorts[k]];
            return 1;
        }

        public long cell(int k, int i, int sort) {
            if (refusedRow(k, sort, i, 1) != 0) {
                return LOST;
            }
            return sheets[k][i];
        }

        public int copy(int k, int i, int other, int j, int n) {
            fault = 0;
            if (out(k, 0, 3) || out(other, 0, 3)) {
                return -1;
            }
            if (sheets[k] == null || sheets[other] == null) {
                fault = 1;
            } else if (sorts[k] != sorts[other]) {
                fault = 2;
            } else if (i < 0 || j < 0 || n < 0 || (long) i + n > sheets[k].length || (long) j + n > sheets[other].length) {
                fault = 3;
            }
            if (fault != 0) {
                return -10 - fault;
            }
            int[] were = Arrays.copyOfRange(sheets[k], i, i + n);
            for (int at = 0; at < n; at++) {
                sheets[other][j + at] = were[at];
            }
            return n;
        }

        void left(int... bodies) {
            for (int body : bodies) {
                trace = 31 * trace + body;
            }
        }

        public int tell(int o) {
            if (noOutlet(o)) {
                return -1;
            }
            int size = outlets.get(o)[2];
            switch (outlets.get(o)[0]) {
                case 0:
                    left(1);
                    return size;
                case 1:
                    left(2, 1);
                    return size + 100;
                default:
                    left(3, 2, 1, 1);
                    return size + 100 + size;
            }
        }

        public int see(int o) {
            if (noOutlet(o)) {
                return -1;
            }
            boolean nightly = outlets.get(o)[0] == 2;
            left(nightly ? 5 : 4);
            return nightly ? 40 : o;
        }

        public int as(int o, int kind) {
            fault = 0;
            if (noOutlet(o)) {
                return -1;
            }
            if (out(kind, 0, 2)) {
                return -2;
            }
            fault = outlets.get(o)[0] >= kind ? 0 : 2;
            return fault == 0 ? 1 : -12;
        }

        public int trace() {
            return trace;
        }

        public int fault() {
            return fault;
        }

        public int many(int what) {
            switch (what) {
                case 0:
                    return miles.size();
                case 1:
                    return outlets.size();
                case 2:
                    return readings.size();
                case 3:
                    return (int) outlets.stream().filter(o -> o[0] != 0).count();
                case 4:
                    return (int) outlets.stream().filter(o -> o[5] == 1).count();
                default:
                    return -2;
            }
        }
    }
}
