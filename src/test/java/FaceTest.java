import java.lang.reflect.Array;
import java.lang.reflect.Constructor;
import java.lang.reflect.Field;
import java.lang.reflect.Method;
import java.lang.reflect.Modifier;
import java.nio.file.Files;
import java.nio.file.Path;
import java.util.Arrays;
import java.util.Collections;
import java.util.IdentityHashMap;
import java.util.List;
import java.util.Set;
import java.util.TreeSet;
import java.util.regex.Pattern;

/** The public face, the rules of LANGUAGE.md that a text or the class itself shows, wild arguments, and room. */
public final class FaceTest {
    private static final Due DUE = new Due();
    private static final Set<String> FACE = new TreeSet<>(List.of(
            "boolean write(long,int)", "boolean again(int,int)", "void turn()", "void clear()",
            "boolean place(int)", "int at()", "boolean count(int,int)", "int countAll()", "int lengths(int)",
            "int just()", "int describe()", "int read()", "int encode(boolean)", "int decode(int,boolean)",
            "int about(int)", "int code(int,int)", "int size()", "int byteAt(int)"));

    public static void main(String[] args) throws Exception {
        face();
        classesInside();
        words(Files.readString(Path.of(System.getProperty("main.source", "src/main/java/PrefixMill.java"))));
        wildArguments();
        room();
        DUE.end();
    }

    private static void face() {
        Class<?> type = PrefixMill.class;
        DUE.same("public and final", type.getModifiers(), Modifier.PUBLIC | Modifier.FINAL);
        DUE.same("no class above it", type.getSuperclass() == Object.class, true);
        DUE.same("no interfaces", type.getInterfaces().length, 0);
        Set<String> seen = new TreeSet<>();
        Set<String> names = new TreeSet<>();
        for (Method method : type.getDeclaredMethods()) {
            if (Modifier.isPrivate(method.getModifiers())) {
                continue;
            }
            DUE.same(method + " is public alone", method.getModifiers(), Modifier.PUBLIC);
            DUE.same(method + " throws nothing", method.getExceptionTypes().length, 0);
            seen.add(written(method));
            names.add(method.getName());
        }
        DUE.same("the face is the document's: " + seen, seen.equals(FACE), true);
        for (Method method : type.getDeclaredMethods()) {
            boolean hidden = Modifier.isPrivate(method.getModifiers());
            DUE.same(method + " has a name of its own", hidden && names.contains(method.getName()), false);
        }
        for (Field field : type.getDeclaredFields()) {
            DUE.same(field + " is private", Modifier.isPrivate(field.getModifiers()), true);
        }
        Constructor<?>[] made = type.getDeclaredConstructors();
        DUE.same("one constructor", made.length, 1);
        DUE.same("it is public", made[0].getModifiers(), Modifier.PUBLIC);
        DUE.same("it takes nothing", made[0].getParameterCount(), 0);
    }

    private static String written(Method method) {
        StringBuilder text = new StringBuilder();
        for (Class<?> type : method.getParameterTypes()) {
            text.append(text.length() > 0 ? "," : "").append(type.getSimpleName());
        }
        return method.getReturnType().getSimpleName() + " " + method.getName() + "(" + text + ")";
    }

    private static void classesInside() {
        Class<?>[] inside = PrefixMill.class.getDeclaredClasses();
        DUE.same("at most twelve classes", inside.length <= 11, true);
        for (Class<?> type : inside) {
            int shown = type.getModifiers() & (Modifier.PUBLIC | Modifier.PROTECTED);
            DUE.same(type + " is not shown", shown, 0);
            DUE.same(type + " is static", Modifier.isStatic(type.getModifiers()), true);
        }
        Class<?>[] all = Arrays.copyOf(inside, inside.length + 1);
        all[inside.length] = PrefixMill.class;
        for (Class<?> type : all) {
            int fields = 0;
            for (Field field : type.getDeclaredFields()) {
                boolean fixed = Modifier.isStatic(field.getModifiers());
                fields += fixed ? 0 : 1;
                DUE.same(field + " is final if static", fixed && !Modifier.isFinal(field.getModifiers()), false);
            }
            DUE.same(type + " has at most twenty fields", fields <= 20, true);
            for (Method method : type.getDeclaredMethods()) {
                DUE.same(method + " has at most seven parameters", method.getParameterCount() <= 7, true);
            }
        }
    }

    private static void words(String source) {
        String code = source.replaceAll("(?s)/\\*.*?\\*/", "").replaceAll("//[^\n]*", "");
        String[] ruledOut = {
            "\\bcatch\\b", "\\bfinally\\b", "\\bsynchronized\\b", "\\bassert\\b", "\\bpackage\\b", "->", "::",
            "\\w+Exact\\b", "\\bthread\\b", "\\bRandom\\b", "\\bcurrentTimeMillis\\b",
            "\\bnanoTime\\b", "\\bstatic\\s*\\{"
        };
        for (String word : ruledOut) {
            DUE.same("the source has " + word, Pattern.compile(word).matcher(code).find(), false);
        }
        String imports = String.join(" ", code.lines().filter(l -> l.startsWith("import")).toList());
        DUE.same("imports are java.util.Arrays alone", imports.equals("import java.util.Arrays;"), true);
    }

    /** No call throws or hangs, whatever it is given and whatever was before it. */
    private static void wildArguments() {
        int[] wild = {
            Integer.MIN_VALUE, Integer.MIN_VALUE + 1, -6001, -257, -2, -1, 0, 1, 2, 3, 5, 6, 8, 9, 11, 12, 255, 256,
            5999, 6000, 6001, 65535, 65536, Integer.MAX_VALUE - 1, Integer.MAX_VALUE
        };
        PrefixMill mill = new PrefixMill();
        for (int round = 0; round < 6; round++) {
            for (int a : wild) {
                for (int b : wild) {
                    mill.count(a, b);
                    mill.code(a, b);
                    if (round > 1) {
                        mill.write(a * 0x100000001L ^ b, b);
                    }
                    if (round == 3) {
                        mill.again(a, b);
                    }
                }
                call(mill, a);
            }
            if (round == 4) {
                mill.clear();
            }
        }
        DUE.same("wild arguments left it whole", mill.at() >= 0 && mill.size() >= 0, true);
    }

    private static void call(PrefixMill mill, int a) {
        mill.place(a);
        mill.lengths(a);
        mill.about(a);
        mill.byteAt(a);
        mill.encode(false);
        mill.encode(true);
        mill.decode(a, false);
        mill.decode(a, true);
        mill.just();
        mill.describe();
        mill.read();
        mill.countAll();
        mill.lengths(11);
        mill.encode(true);
        mill.turn();
        mill.decode(a, true);
        mill.read();
    }

    /** Even a run of 512 new objects stays within 600,000 objects and 7.3 million fields and elements. */
    private static void room() throws Exception {
        int[] made = new int[2];
        weigh(new PrefixMill(), made, Collections.newSetFromMap(new IdentityHashMap<>()));
        DUE.same(made[0] + " objects are few enough", made[0] * 512 <= 600_000, true);
        DUE.same(made[1] + " fields and elements are few enough", made[1] * 512 <= 7_300_000, true);
    }

    private static void weigh(Object object, int[] made, Set<Object> seen) throws Exception {
        if (object == null || !seen.add(object)) {
            return;
        }
        made[0]++;
        if (object.getClass().isArray()) {
            made[1] += Array.getLength(object);
            return;
        }
        for (Field field : object.getClass().getDeclaredFields()) {
            if (!Modifier.isStatic(field.getModifiers())) {
                made[1]++;
                field.setAccessible(true);
                if (!field.getType().isPrimitive()) {
                    weigh(field.get(object), made, seen);
                }
            }
        }
    }
}
