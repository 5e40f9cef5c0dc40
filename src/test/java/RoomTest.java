import java.io.IOException;
import java.lang.reflect.Array;
import java.lang.reflect.Field;
import java.lang.reflect.Modifier;
import java.nio.file.Files;
import java.nio.file.Path;
import java.util.ArrayList;
import java.util.Collections;
import java.util.IdentityHashMap;
import java.util.List;
import java.util.Set;

/**
 * All calls of one run live in one room of some 600,000 objects and 7.3 million fields and elements:
 * an object must be small when it is made, and no call may make it bigger or leave anything behind.
 */
public final class RoomTest {
    private static final Check CHECK = new Check();
    private static final String FULL_LAND = "land 9 4;row 0 6,6,6,6,6,6,6,6,6;row 1 6,5,4,3,2,1,0,9,6;"
        + "row 2 1,2,3,4,5,6,6,5,4;tide 5,6,4,5,3,5;man 0 0 6;man 8 3 6;man 4 2 6;man 0 3 6;"
        + "news 0 3;news 8 0;news 3 3;news 4 0;castle 8 3;";

    private RoomTest() {
    }

    public static void main(String[] args) throws ReflectiveOperationException, IOException {
        small();
        noBigger();
        makesOnlyAtFirst();
        CHECK.end();
    }

    /** All objects that can be come to from one, by their identity. */
    private static Set<Object> reached(Object from) throws ReflectiveOperationException {
        Set<Object> found = Collections.newSetFromMap(new IdentityHashMap<>());
        List<Object> open = new ArrayList<>(List.of(from));
        while (!open.isEmpty()) {
            Object o = open.remove(open.size() - 1);
            if (o != null && found.add(o)) {
                addParts(o, open);
            }
        }
        return found;
    }

    private static void addParts(Object o, List<Object> open) throws ReflectiveOperationException {
        if (o instanceof Object[] row) {
            for (Object part : row) {
                open.add(part);
            }
        }
        if (!o.getClass().isArray()) {
            for (Field f : o.getClass().getDeclaredFields()) {
                if (!Modifier.isStatic(f.getModifiers()) && !f.getType().isPrimitive()) {
                    f.setAccessible(true);
                    open.add(f.get(o));
                }
            }
        }
    }

    private static int elements(Set<Object> objects) {
        int sum = 0;
        for (Object o : objects) {
            if (o.getClass().isArray()) {
                sum += Array.getLength(o);
            } else {
                for (Field f : o.getClass().getDeclaredFields()) {
                    sum += Modifier.isStatic(f.getModifiers()) ? 0 : 1;
                }
            }
        }
        return sum;
    }

    private static void small() throws ReflectiveOperationException {
        Set<Object> parts = reached(new StiltHeralds());
        System.out.println(parts.size() + " objects with " + elements(parts) + " fields and elements");
        CHECK.due("at most 60 objects, found " + parts.size(), parts.size() <= 60 ? 1 : 0, 1);
        CHECK.due("at most 1,500 fields and elements, found " + elements(parts), elements(parts) <= 1500 ? 1 : 0, 1);
        for (Object o : parts) {
            boolean own = o.getClass().isArray() || o.getClass().getName().startsWith("StiltHeralds");
            CHECK.due(o.getClass() + " is an array or a class of its own", own ? 1 : 0, 1);
        }
    }

    private static void noBigger() throws ReflectiveOperationException {
        StiltHeralds x = new StiltHeralds();
        Set<Object> atFirst = reached(x);
        for (int k = 0; k < 3; k++) {
            CHECK.due("a full land", Check.province(x, FULL_LAND), 36);
            Check.province(x, "land 3 3;row 0 pond");
            allCalls(x);
        }
        Set<Object> atLast = reached(x);
        CHECK.due("the same objects as at first", atFirst.equals(atLast) ? 1 : 0, 1);
    }

    private static void allCalls(StiltHeralds x) {
        for (int k = 0; k < 4; k++) {
            x.sawed(k, 20, -1);
            x.sawed(k, 20, k);
            x.bestStake(k, 0);
            x.first(k, 1);
            x.inch(k, k);
            x.canHear(k, k);
            x.canBe(k, 8, 3);
            x.alone(k);
            x.nobody(k - 1);
            x.order(k, k + 1);
            x.write(k, k);
            x.see(k, k, k);
            x.keep(k % 2);
            x.hour(9);
            x.drift(9);
            x.goBack(k % 2);
            x.stake(k, k, true);
            x.saw(k, k);
            x.judge();
            x.fits();
            x.track(k, 0);
            x.told(10);
            x.depth(k, k, 99);
            x.man(k, k);
            x.fault();
            x.seed(k);
        }
        x.tear();
    }

    /** What a call makes and drops can't be found from the object: so the source is looked at. */
    private static void makesOnlyAtFirst() throws IOException {
        String all = Files.readString(Path.of("src/main/java/StiltHeralds.java"));
        String code = all.replaceAll("(?s)/\\*.*?\\*/", " ").replaceAll("//[^\n]*", " ");
        int made = 0;
        for (String line : code.split("\n")) {
            if (line.matches(".*\\bnew\\b.*")) {
                boolean field = line.matches(" {4}( {4})?(private )?final [\\w\\[\\]]+ \\w+ = new .*;");
                boolean constructor = line.trim().equals("images[i] = new State(land);");
                CHECK.due("made for good: " + line.trim(), field || constructor ? 1 : 0, 1);
                made++;
            }
            for (String maker : new String[] {"clone(", "copyOf", "substring(", "toCharArray(", "StringBuilder", "valueOf("}) {
                CHECK.due("no " + maker + " in " + line.trim(), line.contains(maker) ? 1 : 0, 0);
            }
        }
        CHECK.due("made at first: found " + made, made > 20 ? 1 : 0, 1);
    }
}
