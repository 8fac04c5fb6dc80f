import java.io.IOException;
import java.lang.management.ManagementFactory;
import java.lang.reflect.Array;
import java.lang.reflect.Field;
import java.lang.reflect.Method;
import java.lang.reflect.Modifier;
import java.nio.file.Files;
import java.nio.file.Path;
import java.util.ArrayList;
import java.util.IdentityHashMap;
import java.util.List;
import java.util.Map;
import java.util.TreeSet;

/** The face of the document, the language that the program keeps to, and the room that it takes. */
public final class RulesTest {
    private static final Due DUE = new Due();
    private static final String[] FACE = {
        "public int WordMachines.feed(int,int,int,int,int)", "public int WordMachines.read(int,int)",
        "public int WordMachines.fault(int)", "public int WordMachines.look(int,int)",
        "public int WordMachines.next(int,int,int)", "public int WordMachines.accepts(int,int)",
        "public int WordMachines.spots(int,int,int)", "public int WordMachines.classOf(int,int)",
        "public int WordMachines.means(int,int)", "public long WordMachines.words(int,int)",
        "public boolean WordMachines.word(int,int,long)", "public int WordMachines.shortest(int)",
        "public int WordMachines.compare(int,int)", "public int WordMachines.differ(int,int)",
        "public int WordMachines.letter(int)"
    };

    public static void main(String[] args) throws IOException, IllegalAccessException {
        face();
        classesInside();
        source();
        room();
        DUE.end("RulesTest");
    }

    private static void face() {
        TreeSet<String> names = new TreeSet<>();
        for (Method method : WordMachines.class.getDeclaredMethods()) {
            if (!Modifier.isPrivate(method.getModifiers())) {
                names.add(method.toString());
            }
        }
        DUE.holds("the methods are " + names, names.equals(new TreeSet<>(List.of(FACE))));
        for (Field field : WordMachines.class.getDeclaredFields()) {
            int modifiers = field.getModifiers();
            boolean isNone = field.toString().equals("public static final int WordMachines.NONE");
            DUE.holds(field + " is private", isNone || Modifier.isPrivate(modifiers));
            DUE.holds(field + " is no static state", !Modifier.isStatic(modifiers) || Modifier.isFinal(modifiers));
        }
        DUE.is("constructors", WordMachines.class.getDeclaredConstructors().length, 1);
        DUE.is("the class", WordMachines.class.getModifiers(), Modifier.PUBLIC | Modifier.FINAL);
    }

    private static void classesInside() {
        Class<?>[] inside = WordMachines.class.getDeclaredClasses();
        DUE.holds("at most twelve classes", inside.length < 12);
        for (Class<?> one : inside) {
            DUE.holds(one + " is static", Modifier.isStatic(one.getModifiers()));
            for (Method method : one.getDeclaredMethods()) {
                for (String name : FACE) {
                    DUE.holds(method + " has a name of its own", !name.contains("." + method.getName() + "("));
                }
                DUE.holds(method + " has few parameters", method.getParameterCount() <= 7);
            }
        }
    }

    private static void source() throws IOException {
        String source = Files.readString(Path.of("src/main/java/WordMachines.java"));
        String code = source.replaceAll("(?s)/\\*.*?\\*/", " ").replaceAll("//[^\n]*", " ");
        for (String word : new String[] {"throw", "try", "catch", "synchronized", "assert", "import", "package", "native"}) {
            DUE.holds("no " + word, !code.matches("(?s).*\\b" + word + "\\b.*"));
        }
        for (String sign : new String[] {"->", "::", "while (true)", "for (;;)", "@"}) {
            DUE.holds("no " + sign, !code.contains(sign));
        }
    }

    private static void room() throws IllegalAccessException {
        WordMachines x = new WordMachines();
        long made = sizeOf(x);
        System.out.println("a new object takes " + made + " fields and elements");
        DUE.holds("512 new objects have room: " + made, made * 512 < 7_300_000);
        callAll(x);
        long used = sizeOf(x);
        System.out.println("with all slots it takes " + used + " fields and elements");
        DUE.holds("five machines at most: " + used, used < made + 5 * 2000);
        com.sun.management.ThreadMXBean threads =
            (com.sun.management.ThreadMXBean) ManagementFactory.getThreadMXBean();
        Due.feed(x, "a");
        long before = threads.getThreadAllocatedBytes(Thread.currentThread().getId());
        for (int i = 0; i < 100; i++) {
            callsWithoutTexts(x);
        }
        long bytes = threads.getThreadAllocatedBytes(Thread.currentThread().getId()) - before;
        DUE.holds("calls make nothing: " + bytes, bytes < 10_000);
        callAll(x);
        DUE.is("nothing grows", sizeOf(x), used);
    }

    private static void callAll(WordMachines x) {
        for (int s = 0; s < 4; s++) {
            Due.read(x, s, "(" + "a".repeat(20 + s) + ")*&(bbb)*,.*a..");
            Due.read(x, s, ".*a.......");
        }
        callsWithoutTexts(x);
    }

    private static void callsWithoutTexts(WordMachines x) {
        for (int s = 0; s < 4; s++) {
            x.feed(0x61616161, 0x61616161, 0x61616161, 0x61616161, 0x61616161);
            x.means(s, 20);
            x.feed(0x612A2C62, 0, 0, 0, 0);
            x.read(s, 4);
            x.feed(0x612A2C29, 0, 0, 0, 0);
            x.read(s, 4);
            x.words(s, 28);
            x.word(s, 28, 0);
            x.shortest(s);
            x.compare(s, 0);
            x.differ(s, 1);
            x.look(s, 5);
        }
    }

    /** The fields and elements of all objects that can be reached. */
    private static long sizeOf(Object root) throws IllegalAccessException {
        Map<Object, Boolean> seen = new IdentityHashMap<>();
        List<Object> open = new ArrayList<>();
        open.add(root);
        long size = 0;
        while (!open.isEmpty()) {
            Object object = open.remove(open.size() - 1);
            if (object == null || seen.put(object, true) != null) {
                continue;
            }
            if (object.getClass().isArray()) {
                size += Array.getLength(object);
                for (int i = 0; !object.getClass().getComponentType().isPrimitive() && i < Array.getLength(object); i++) {
                    open.add(Array.get(object, i));
                }
                continue;
            }
            for (Field field : object.getClass().getDeclaredFields()) {
                if (!Modifier.isStatic(field.getModifiers())) {
                    size++;
                    field.setAccessible(true);
                    if (!field.getType().isPrimitive()) {
                        open.add(field.get(object));
                    }
                }
            }
        }
        return size;
    }
}
