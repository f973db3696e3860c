import java.lang.reflect.Constructor;
import java.lang.reflect.Field;
import java.lang.reflect.Method;
import java.lang.reflect.Modifier;
import java.util.Arrays;
import java.util.Set;
import java.util.TreeSet;

/** The public face, the 512 calls of an object, and promise 1. */
public final class FaceTest {
    private static final String[] METHODS = {
        "int feed(int,int,int,int,int)", "boolean end(int)", "int make(int)", "int fault(int)",
        "int field(int,int,int)", "long plain(int,int)", "int clear(int)", "int load(int)",
        "int set(int,int,int,long)", "int say(int,int,int)", "int nest(int,int,int,int)",
        "int drop(int,int,int)", "int read(int,int)", "long get(int,int,int,int)", "int kept(int,int)",
        "int write(int,int,int)", "int at(int,int)", "int open(int,int,int,int)", "int step(int,int)",
        "int walk(int,int,int)", "int by()", "int readers(int)"
    };

    public static void main(String[] args) {
        members();
        newObject();
        calls512();
        objectsApart();
        Check.finish();
    }

    private static void members() {
        Check.due("NONE", RecordBench.NONE, -1);
        Check.holds("public and final", Modifier.isPublic(RecordBench.class.getModifiers())
                && Modifier.isFinal(RecordBench.class.getModifiers()));
        Set<String> methods = new TreeSet<>();
        for (Method method : RecordBench.class.getDeclaredMethods()) {
            if (Modifier.isPrivate(method.getModifiers())) {
                continue;
            }
            Check.holds(method.getName() + " is public, not static",
                    Modifier.isPublic(method.getModifiers()) && !Modifier.isStatic(method.getModifiers()));
            StringBuilder types = new StringBuilder();
            for (Class<?> type : method.getParameterTypes()) {
                types.append(types.length() == 0 ? "" : ",").append(type);
            }
            methods.add(method.getReturnType() + " " + method.getName() + "(" + types + ")");
        }
        Check.holds("the methods " + methods, methods.equals(new TreeSet<>(Arrays.asList(METHODS))));
        for (Field field : RecordBench.class.getDeclaredFields()) {
            Check.holds(field.getName() + " is private or NONE",
                    Modifier.isPrivate(field.getModifiers()) || field.getName().equals("NONE"));
        }
        Constructor<?>[] constructors = RecordBench.class.getDeclaredConstructors();
        Check.holds("one public constructor", constructors.length == 1
                && Modifier.isPublic(constructors[0].getModifiers()) && constructors[0].getParameterCount() == 0);
    }

    private static void newObject() {
        Check.sentence("No MAKES; RECORDS 0 .. 3 are empty.");
        RecordBench x = new RecordBench();
        Check.due("fault(0)", x.fault(0), 0);
        Check.due("fault(1)", x.fault(1), -1);
        Check.due("by()", x.by(), 0);
        Check.holds("the tape is empty", x.end(0) && !x.end(1));
        for (int m = -1; m <= 8; m++) {
            Check.due("readers", x.readers(m), -1);
            Check.due("step", x.step(m, m), -1);
            Check.due("field", x.field(m, 1, 0), -1);
            Check.due("read", x.read(0, m), -2);
        }
        for (int r = 0; r < 4; r++) {
            Check.due("at", x.at(r, 0), -1);
            Check.due("clear", x.clear(r), 0);
        }
    }

    private static void calls512() {
        Check.sentence("An object is used for at most 512 calls after it has been made");
        RecordBench x = new RecordBench();
        for (int call = 1; call <= 509; call++) {
            Check.due("feed", x.feed(0x31206120, 0x696e743b, 0, 0, 0), call <= 20 ? 20 * call : -1);
        }
        Check.holds("the 510th call", x.end(8));
        Check.due("the 511th call", x.make(7), 1);
        Check.due("the 512th call", x.readers(7), 1);
    }

    private static void objectsApart() {
        Check.sentence("A new object");
        RecordBench x = Check.bench("1 a int;", "1 a flag;");
        x.set(0, 0, 1, 5);
        x.read(0, 1);
        x.step(0, 1);
        x.feed(1, 2, 3, 4, 5);
        newObject();
        Check.due("the first one stays", x.get(0, 0, 1, 1), 5);
        Check.due("the first one stays", x.fault(0), 5);
        Check.due("the first one stays", x.by(), 1);
        Check.holds("the first one stays", x.end(20));
    }
}
