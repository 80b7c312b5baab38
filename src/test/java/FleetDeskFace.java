import java.lang.reflect.Constructor;
import java.lang.reflect.Field;
import java.lang.reflect.Method;
import java.lang.reflect.Modifier;
import java.util.Arrays;
import java.util.Map;
import java.util.Set;
import java.util.TreeMap;
import java.util.TreeSet;

/** The face of FleetDesk is the document's and nothing else; its members keep to what LANGUAGE.md says of members. */
public final class FleetDeskFace {
    private static int wrong = 0;

    private static void due(String what, Object got, Object want) {
        if (!want.equals(got)) {
            wrong++;
            System.out.println(what + ": found " + got + ", due is " + want);
        }
    }

    public static void main(String[] args) throws Exception {
        constants();
        methods();
        kindOfClass();
        fields();
        System.out.println(wrong == 0 ? "the face is as due" : wrong + " things are not as due");
        if (wrong != 0) {
            System.exit(1);
        }
    }

    private static void constants() throws Exception {
        Map<String, Integer> found = new TreeMap<>();
        for (Field f : FleetDesk.class.getDeclaredFields()) {
            if (!Modifier.isPrivate(f.getModifiers())) {
                due(f.getName(), f.toString(), "public static final int FleetDesk." + f.getName());
                found.put(f.getName(), f.getInt(null));
            }
        }
        due("constants", found, new TreeMap<>(Map.of("BAD", -1, "FULL", -2, "REFUSED", -3, "NONE", -1)));
    }

    private static void methods() {
        Set<String> open = new TreeSet<>();
        Set<String> openNames = new TreeSet<>();
        for (Constructor<?> c : FleetDesk.class.getDeclaredConstructors()) {
            open.add(c.toString());
        }
        for (Method m : FleetDesk.class.getDeclaredMethods()) {
            if (!Modifier.isPrivate(m.getModifiers())) {
                open.add(m.toString());
                openNames.add(m.getName());
            }
        }
        due("constructor and methods", open, new TreeSet<>(Arrays.asList(
                "public FleetDesk(int,int,int,int)",
                "public int FleetDesk.book(int,int,int,int)",
                "public int FleetDesk.probe(int,int,int,int)",
                "public int FleetDesk.cancel(int)",
                "public int FleetDesk.setStock(int,int)",
                "public int FleetDesk.stock(int)",
                "public int FleetDesk.bookings()",
                "public int FleetDesk.shortage(int,int,int)",
                "public int FleetDesk.spare(int,int)",
                "public int FleetDesk.pickupOf(int)",
                "public int FleetDesk.returnOf(int)",
                "public boolean FleetDesk.couldPick(int,int)",
                "public boolean FleetDesk.couldReturn(int,int)")));
        for (Method m : FleetDesk.class.getDeclaredMethods()) {
            if (Modifier.isPrivate(m.getModifiers())) {
                due("private " + m.getName() + " bears a public name", openNames.contains(m.getName()), false);
            }
            due(m.getName() + " takes seven or fewer", m.getParameterCount() <= 7, true);
        }
    }

    private static void kindOfClass() {
        due("modifiers", Modifier.toString(FleetDesk.class.getModifiers()), "public final");
        due("superclass", FleetDesk.class.getSuperclass(), Object.class);
        due("interfaces", FleetDesk.class.getInterfaces().length, 0);
        due("nested classes", FleetDesk.class.getDeclaredClasses().length, 0);
        due("package", FleetDesk.class.getPackageName(), "");
    }

    private static void fields() {
        Set<Class<?>> numbers = Set.of(int.class, long.class, short.class, byte.class, char.class, boolean.class);
        for (Field f : FleetDesk.class.getDeclaredFields()) {
            Class<?> type = f.getType().isArray() ? f.getType().getComponentType() : f.getType();
            due(f.getName() + " is of a type the rules leave", numbers.contains(type), true);
            if (Modifier.isStatic(f.getModifiers())) {
                boolean isWhole = f.getType() == int.class || f.getType() == long.class;
                due(f.getName() + " is a constant of int or long", Modifier.isFinal(f.getModifiers()) && isWhole, true);
            }
        }
    }
}
