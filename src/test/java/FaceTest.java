import java.lang.reflect.Constructor;
import java.lang.reflect.Field;
import java.lang.reflect.Method;
import java.lang.reflect.Modifier;
import java.util.Arrays;
import java.util.Map;
import java.util.TreeMap;
import java.util.TreeSet;

/** The public face and the public constants are those of the document, and no other member is open. */
final class FaceTest {
    private static final String CONSTANTS = "OK=0 ABSENT=-1 BAD=-2 NO_TXN=-3 NOT_NOW=-4 BUSY=-5 FULL=-6 "
            + "NOT_PUT=-7 ALREADY=-8 LOCKED=-9 CONFLICT=-10 GONE=-11 PENDING=0 "
            + "PH_IDLE=0 PH_BUFFERING=1 PH_PREWRITING=2 PH_STAMPED=3 PH_COMMITTED=4 "
            + "ST_NONE=0 ST_PUT=1 ST_PREWRITTEN=2 ST_COMMITTED=3 "
            + "LOOK_PHASE=0 LOOK_START=1 LOOK_STAMP=2 LOOK_PRIMARY=3 LOOK_STAGE=4 LOOK_VALUE=5";
    private static final String METHODS = "begin/1 put/3 prewrite/2 stamp/1 commit/2 heartbeat/1 abandon/1 "
            + "crash/1 tick/1 read/2 peek/2 versionTime/2 holder/1 leaseLeft/1 fate/1 look/3";
    private static int wrong = 0;

    public static void main(String[] args) throws IllegalAccessException {
        Class<?> face = PrimaryLockTxn.class;
        expect(Modifier.isPublic(face.getModifiers()) && Modifier.isFinal(face.getModifiers()), "public final");
        expect(face.getSuperclass() == Object.class && face.getInterfaces().length == 0, "no kin");
        expect(face.getDeclaredClasses().length == 0, "no nested class");
        checkConstructor(face.getDeclaredConstructors());
        checkFields(face.getDeclaredFields());
        checkMethods(face.getDeclaredMethods());
        System.out.println(wrong + " wrong");
        if (wrong != 0) {
            System.exit(1);
        }
    }

    private static void expect(boolean holds, String what) {
        if (!holds) {
            wrong++;
            System.out.println("does not hold: " + what);
        }
    }

    private static void checkConstructor(Constructor<?>[] all) {
        expect(all.length == 1 && Modifier.isPublic(all[0].getModifiers()), "one public constructor");
        Class<?>[] four = {int.class, int.class, int.class, int.class};
        expect(Arrays.equals(all[0].getParameterTypes(), four), "the constructor takes four ints");
    }

    private static void checkFields(Field[] all) throws IllegalAccessException {
        Map<String, Integer> due = new TreeMap<>();
        for (String one : CONSTANTS.split(" ")) {
            due.put(one.split("=")[0], Integer.valueOf(one.split("=")[1]));
        }
        Map<String, Integer> found = new TreeMap<>();
        int bound = Modifier.PUBLIC | Modifier.STATIC | Modifier.FINAL;
        for (Field field : all) {
            if ((field.getModifiers() & bound) == bound && field.getType() == int.class) {
                found.put(field.getName(), field.getInt(null));
            } else {
                expect(Modifier.isPrivate(field.getModifiers()), "private: " + field);
            }
        }
        expect(found.equals(due), "public constants " + found + ", due are " + due);
    }

    private static void checkMethods(Method[] all) {
        TreeSet<String> open = new TreeSet<>();
        TreeSet<String> hidden = new TreeSet<>();
        for (Method method : all) {
            if (Modifier.isPrivate(method.getModifiers())) {
                hidden.add(method.getName());
                continue;
            }
            boolean plain = method.getModifiers() == Modifier.PUBLIC && method.getReturnType() == int.class
                    && Arrays.stream(method.getParameterTypes()).allMatch(type -> type == int.class);
            expect(plain, "public, ints alone: " + method);
            open.add(method.getName() + "/" + method.getParameterCount());
        }
        expect(open.equals(new TreeSet<>(Arrays.asList(METHODS.split(" ")))), "public methods " + open);
        for (String one : open) {
            expect(!hidden.contains(one.split("/")[0]), "no private method named " + one);
        }
    }
}
