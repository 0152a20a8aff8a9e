import com.sun.management.ThreadMXBean;
import java.lang.management.ManagementFactory;
import java.lang.reflect.Array;
import java.lang.reflect.Field;
import java.lang.reflect.Modifier;
import java.util.IdentityHashMap;
import java.util.Map;

/**
 * All calls of a run live in one room, and nothing that is made there is ever given back: an object
 * is small, and its calls make nothing but the one table of tells.
 */
public final class CanalEndRoom {
    // at most three calls at a time, so an object stays below its 512
    private static final int CALLS = 100, SLACK = 1024;
    private static final int MOST_OBJECTS = 150, MOST_CELLS = 3000, TABLE = 100100;
    private static final String LONG = "w11;m11o14;m22o25;m33o16o27;m44;m55o18;m66;m77o29;m88o33;m99;m00o12";
    private static final int OF_FOUR_OUTLETS = 27;
    private static final ThreadMXBean MADE = (ThreadMXBean) ManagementFactory.getThreadMXBean();
    private static int wrong = 0;
    /** What calls answer goes here, so that none of them is left out by the machine. */
    private static long answers = 0;

    interface Call {
        long on(CanalEnd x);
    }

    public static void main(String[] args) throws Exception {
        CanalEnd x = new CanalEnd();
        sizes("a new object", x, MOST_CELLS);
        begin(x);
        x.tells(9999, true, 0);
        sizes("an object behind tells", x, MOST_CELLS + TABLE);
        calls();
        System.out.println(wrong == 0 ? "the room is kept" : wrong + " things take too much room");
        if (wrong != 0) {
            System.exit(1);
        }
    }

    private static void begin(CanalEnd x) {
        x.sheet(0, 0, LONG.length());
        for (int i = 0; i < LONG.length(); i++) {
            x.put(0, i, LONG.charAt(i));
        }
        if (x.canal(0, 0, 0, LONG.length()) != 10 || x.many(1) != 8) {
            throw new IllegalStateException("the CANAL is not the largest one");
        }
        x.sheet(1, 1, 100);
    }

    private static void calls() {
        makesNothing("sheet", x -> x.sheet(2, 2, 100));
        makesNothing("canal", x -> x.canal(0, 0, 0, LONG.length()));
        makesNothing("canal, a text with a fault", x -> x.canal(0, 0, 0, LONG.length() - 1));
        makesNothing("row", x -> x.row(1, 1, 0, 100, 17));
        makesNothing("behind", x -> x.behind(9, 9999, true));
        makesNothing("reading, back", x -> x.reading(3, 500, true, 7) + x.back(1));
        makesNothing("fits", x -> x.syphon(5) + x.fits());
        makesNothing("sure", x -> x.syphon(5) + x.sure(0));
        makesNothing("guilt", x -> x.syphon(5) + x.guilt(7, 1));
        makesNothing("tells", x -> x.tells(9999, true, 0));
        makesNothing("settle", x -> x.needs(3, 999) + x.settle(50) + x.kind(3, 0));
        makesNothing("brings", x -> x.brings(0, 3, 9999));
        makesNothing("best", x -> x.best(9999));
        makesNothing("gains", x -> x.gains(3, 7, 9999));
        makesNothing("holds", x -> x.holds(3, 255, 8, 1, 9999));
        makesNothing("digs", x -> x.digs(3, 4, 1, 9999, 1));
        makesNothing("tempts", x -> x.tempts(7, 9999));
        makesNothing("kept", x -> x.kept(3, 99, 9999));
        makesNothing("cell", x -> x.cell(1, 99, 1));
        makesNothing("copy", x -> x.copy(1, 0, 1, 1, 99));
        makesNothing("tell, see, as", x -> x.tell(7) + x.see(7) + x.as(7, 1));
        makesNothing("even", CanalEndRoom::evenOfFour);
    }

    private static long evenOfFour(CanalEnd x) {
        x.canal(0, 0, 0, OF_FOUR_OUTLETS);
        int height = x.even(900, 3);
        if (height < 0) {
            throw new IllegalStateException("the CANAL has not four OUTLETS");
        }
        return height;
    }

    /** One object a call, of the smallest, would come to more than the slack. */
    private static void makesNothing(String told, Call call) {
        CanalEnd x = new CanalEnd();
        begin(x);
        x.tells(9999, true, 0);
        answers += call.on(x);
        long before = MADE.getCurrentThreadAllocatedBytes();
        for (int n = 0; n < CALLS; n++) {
            answers += call.on(x);
        }
        long made = MADE.getCurrentThreadAllocatedBytes() - before;
        if (made > SLACK) {
            wrong++;
            System.out.println(told + " made " + made + " bytes in " + CALLS + " calls");
        }
    }

    private static void sizes(String told, CanalEnd x, int mostCells) throws Exception {
        Map<Object, Object> seen = new IdentityHashMap<>();
        int cells = walk(x, seen);
        if (seen.size() > MOST_OBJECTS || cells > mostCells) {
            wrong++;
            System.out.println(told + " has " + seen.size() + " objects, " + cells + " fields and elements");
        }
    }

    /** How many fields and elements there are in what this leads to. */
    private static int walk(Object one, Map<Object, Object> seen) throws Exception {
        if (one == null || seen.put(one, one) != null) {
            return 0;
        }
        Class<?> type = one.getClass();
        return type.isArray() ? walkArray(one, type, seen) : walkFields(one, type, seen);
    }

    private static int walkArray(Object one, Class<?> type, Map<Object, Object> seen) throws Exception {
        int cells = Array.getLength(one);
        if (!type.getComponentType().isPrimitive()) {
            for (Object part : (Object[]) one) {
                cells += walk(part, seen);
            }
        }
        return cells;
    }

    private static int walkFields(Object one, Class<?> type, Map<Object, Object> seen) throws Exception {
        int cells = 0;
        for (Field field : type.getDeclaredFields()) {
            if (!Modifier.isStatic(field.getModifiers())) {
                field.setAccessible(true);
                cells += 1 + (field.getType().isPrimitive() ? 0 : walk(field.get(one), seen));
            }
        }
        return cells;
    }
}
