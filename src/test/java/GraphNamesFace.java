import java.lang.management.ManagementFactory;
import java.lang.reflect.Constructor;
import java.lang.reflect.Field;
import java.lang.reflect.Method;
import java.lang.reflect.Modifier;
import java.util.ArrayList;
import java.util.Arrays;
import java.util.HashSet;
import java.util.List;
import java.util.NoSuchElementException;
import java.util.Set;

/** The class's face as the document has it, the rules on names and members, and what calls make. */
public final class GraphNamesFace {
    private static final String[] FACE = {
        "int feed 5", "int text 2", "int fault 0", "int where 0", "int graph 2", "int colour 2", "int kind 3",
        "int degree 3", "int start 2", "int cell 2", "int apart 3", "int tree 2", "int search 2", "int name 2",
        "int place 2", "int less 2", "int generator 3", "int symmetries 2", "int orbit 2", "int leave 2", "int maps 2",
        "int map 3", "int changes 2", "int told 2", "int cards 2", "int turned 1", "int base 2", "int fewest 1",
        "int link 4", "int paint 3", "int swap 3", "int shuffle 2", "int copy 2", "int turn 1", "int drop 2",
        "int grow 3", "int undo 0", "boolean image 1", "boolean again 1", "int row 2", "int size 0", "int trouble 0",
    };
    private static int wrong = 0;

    private static void must(String what, boolean holds) {
        if (!holds) {
            wrong++;
            System.out.println("not so: " + what);
        }
    }

    public static void main(String[] args) throws Exception {
        face();
        inside(GraphNames.class);
        room();
        extremes();
        System.out.println(wrong == 0 ? "the face is as due" : wrong + " are not as due");
        if (wrong != 0) {
            System.exit(1);
        }
    }

    private static void face() throws Exception {
        Class<?> c = GraphNames.class;
        must("public final", Modifier.isPublic(c.getModifiers()) && Modifier.isFinal(c.getModifiers()));
        must("one constructor without parameters", c.getDeclaredConstructors().length == 1
            && Modifier.isPublic(c.getDeclaredConstructor().getModifiers()));
        Set<String> found = new HashSet<>();
        for (Method m : c.getDeclaredMethods()) {
            if (Modifier.isPrivate(m.getModifiers()) || m.isSynthetic()) {
                continue;
            }
            must(m + " takes int alone", Arrays.stream(m.getParameterTypes()).allMatch(p -> p == int.class));
            must(m + " is public alone", m.getModifiers() == Modifier.PUBLIC);
            found.add(m.getReturnType() + " " + m.getName() + " " + m.getParameterCount());
            int throwing = m.getName().equals("row") ? 1 : 0;
            must(m + " throws as told", m.getExceptionTypes().length == throwing);
        }
        must("the methods are those of the face", found.equals(new HashSet<>(List.of(FACE))));
        must("row throws", c.getMethod("row", int.class, int.class).getExceptionTypes()[0] == NoSuchElementException.class);
        for (Field f : c.getDeclaredFields()) {
            boolean constant = f.getName().equals("NONE");
            must(f + " is hidden", constant || Modifier.isPrivate(f.getModifiers()));
            must("NONE", !constant || f.getModifiers() == (Modifier.PUBLIC | Modifier.STATIC | Modifier.FINAL));
        }
    }

    private static void inside(Class<?> outer) {
        Set<String> names = new HashSet<>();
        for (String f : FACE) {
            names.add(f.split(" ")[1]);
        }
        List<Class<?>> all = new ArrayList<>(List.of(outer.getDeclaredClasses()));
        must("at most twelve classes", all.size() <= 11);
        all.add(outer);
        for (Class<?> c : all) {
            int fields = 0;
            for (Field f : c.getDeclaredFields()) {
                must(f + " is no changing static state", !Modifier.isStatic(f.getModifiers()) || Modifier.isFinal(f.getModifiers()));
                fields += Modifier.isStatic(f.getModifiers()) || f.isSynthetic() ? 0 : 1;
            }
            must(c + " has at most twenty fields", fields <= 20);
            must(c + " is hidden", c == outer || !Modifier.isPublic(c.getModifiers()) && Modifier.isStatic(c.getModifiers()));
            for (Method m : c.getDeclaredMethods()) {
                must(m + " takes at most seven", m.getParameterCount() <= 7);
                must(m + " bears no name of the face", c == outer && Modifier.isPublic(m.getModifiers()) || !names.contains(m.getName()));
            }
            for (Constructor<?> k : c.getDeclaredConstructors()) {
                must(k + " throws nothing", k.getExceptionTypes().length == 0);
            }
        }
    }

    /** One object's rows are made once: calls make nothing, so that a run of 512 fits its room. */
    private static void room() {
        com.sun.management.ThreadMXBean bean = (com.sun.management.ThreadMXBean) ManagementFactory.getThreadMXBean();
        if (!bean.isThreadAllocatedMemorySupported()) {
            return;
        }
        long id = Thread.currentThread().getId();
        dearest(new GraphNames());
        long before = bean.getThreadAllocatedBytes(id);
        GraphNames x = new GraphNames();
        long made = bean.getThreadAllocatedBytes(id);
        dearest(x);
        long then = bean.getThreadAllocatedBytes(id);
        must("a new object is small: " + (made - before), made - before < 400_000);
        must("calls make nothing: " + (then - made), then - made < 4_000);
    }

    private static void dearest(GraphNames x) {
        for (int v = 1; v < 7; v++) {
            x.grow(0, 0, 0);
        }
        x.copy(0, 1);
        x.turn(1);
        for (int i = 0; i < 4; i++) {
            x.link(0, 0, 1, i);
            x.link(0, 0, 1, 0);
            for (int g = 0; g < 3; g++) {
                x.feed(0x73697a65, 0x20373b70, 0x61746820, 0x3020313b, 0x6c696e6b);
                x.text(2, 18);
                x.tree(g, 0);
                x.search(g, 0);
                x.name(g, 3);
                x.symmetries(g, 0);
                x.changes(0, g);
                x.told(0, g);
                x.map(g, 1, 0);
                x.cards(g, 0);
                x.fewest(g);
                x.turned(g);
                x.shuffle(g, 77);
                x.undo();
                x.image(0);
                x.again(0);
            }
        }
    }

    /** No arguments, however far off, let the machine itself throw. */
    private static void extremes() throws Exception {
        int[] odd = {Integer.MIN_VALUE, -2, -1, 0, 1, 2, 3, 6, 7, 8, 31, 32, 127, 128, 1 << 20, Integer.MAX_VALUE};
        GraphNames x = new GraphNames();
        for (Method m : GraphNames.class.getDeclaredMethods()) {
            if (!Modifier.isPublic(m.getModifiers())) {
                continue;
            }
            int n = m.getParameterCount();
            for (int i = 0; i < Math.pow(odd.length, Math.min(n, 3)); i++) {
                if (i % 256 == 0) {
                    x = new GraphNames();
                    dearest(x);
                }
                Object[] a = new Object[n];
                for (int j = 0, r = i; j < n; j++, r /= odd.length) {
                    a[j] = j < 3 ? odd[r % odd.length] : odd[(i + j) % odd.length];
                }
                try {
                    m.invoke(x, a);
                } catch (java.lang.reflect.InvocationTargetException e) {
                    boolean due = m.getName().equals("row") && e.getCause().getClass() == NoSuchElementException.class;
                    must(m.getName() + Arrays.toString(a) + " threw " + e.getCause(), due);
                }
            }
        }
    }
}
