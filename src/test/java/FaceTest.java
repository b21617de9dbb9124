import java.lang.reflect.Constructor;
import java.lang.reflect.Field;
import java.lang.reflect.Method;
import java.lang.reflect.Modifier;
import java.nio.file.Files;
import java.nio.file.Path;
import java.util.Set;
import java.util.TreeSet;
import java.util.regex.Matcher;
import java.util.regex.Pattern;

/** The public face, the rules of LANGUAGE.md that can be looked for, and that calls make no objects. */
public final class FaceTest {
    private static final Check CHECK = new Check();
    private static final Path SOURCE = Path.of("src/main/java/LeafAsks.java");
    private static final String[] METHODS = {
        "answers/1", "back/1", "branches/0", "bulk/6", "clear/0", "count/1", "having/2", "keep/1", "leaf/4",
        "needs/2", "next/4", "notice/2", "orders/0", "status/2", "ticks/1", "told/2", "type/1", "undo/0", "walk/1",
    };
    private static final String[] FORBIDDEN = {
        "\\bthrow\\b", "\\btry\\b", "\\bcatch\\b", "\\bsynchronized\\b", "\\bassert\\b", "->", "::",
        "\\bprotected\\b", "\\bpackage\\b", "Exact\\b", "\\bstatic\\s*\\{", "\\bnew\\s+\\w+\\s*\\([^)]*\\)\\s*\\{",
        "\\bSystem\\.(?!arraycopy)", "\\bvar\\b", "\\bgoto\\b", "[^\\x00-\\x7f]",
    };

    public static void main(String[] args) throws Exception {
        face();
        constants();
        source();
        objects();
        CHECK.end("FaceTest");
    }

    private static void face() {
        int modifiers = LeafAsks.class.getModifiers();
        CHECK.due("public and final", Modifier.isPublic(modifiers) && Modifier.isFinal(modifiers));
        Set<String> found = new TreeSet<>();
        for (Method method : LeafAsks.class.getDeclaredMethods()) {
            if (!Modifier.isPrivate(method.getModifiers()) && !method.isSynthetic()) {
                CHECK.due(method + " is public, int, no static", method.getReturnType() == int.class
                    && method.getModifiers() == Modifier.PUBLIC);
                found.add(method.getName() + "/" + method.getParameterCount());
            }
        }
        CHECK.due("methods " + found, found.equals(new TreeSet<>(Set.of(METHODS))));
        Constructor<?>[] constructors = LeafAsks.class.getDeclaredConstructors();
        CHECK.due("constructors", constructors.length, 1);
        CHECK.due("public constructor", constructors[0].getModifiers(), Modifier.PUBLIC);
        CHECK.due("constructor's parameters", constructors[0].getParameterCount(), 0);
        CHECK.due("some twelve classes", LeafAsks.class.getDeclaredClasses().length <= 11);
        for (Class<?> inside : LeafAsks.class.getDeclaredClasses()) {
            CHECK.due(inside + " is static", Modifier.isStatic(inside.getModifiers()));
        }
    }

    private static void constants() {
        CHECK.due("BAD", LeafAsks.BAD, -1);
        CHECK.due("STATE", LeafAsks.STATE, -2);
        CHECK.due("FULL", LeafAsks.FULL, -3);
        CHECK.due("NONE", LeafAsks.NONE, -9);
        int open = 0;
        for (Field field : LeafAsks.class.getDeclaredFields()) {
            if (!Modifier.isPrivate(field.getModifiers())) {
                open++;
            }
        }
        CHECK.due("constants that can be seen", open, 4);
    }

    private static void source() throws Exception {
        String text = Files.readString(SOURCE).replaceAll("(?s)/\\*.*?\\*/", "").replaceAll("//[^\n]*", "");
        for (String pattern : FORBIDDEN) {
            Matcher matcher = Pattern.compile(pattern).matcher(text);
            CHECK.due("the source is without " + pattern, !matcher.find());
        }
        Matcher imports = Pattern.compile("\\bimport\\s+([^;]+);").matcher(text);
        while (imports.find()) {
            CHECK.due("import of " + imports.group(1), imports.group(1).equals("java.util.Arrays"));
        }
        constructors(text);
        for (String method : METHODS) {
            String name = method.substring(0, method.indexOf('/'));
            Matcher twin = Pattern.compile("\\b(int|void|boolean)\\s+" + name + "\\s*\\(").matcher(text);
            int times = 0;
            while (twin.find()) {
                times++;
            }
            CHECK.due("methods named " + name, times, 1);
        }
    }

    /** Rule 12: a constructor hands out no part of the object that it makes; none needs more than Math here. */
    private static void constructors(String text) {
        Matcher body = Pattern.compile("\\n *(?:public )?([A-Z]\\w*)\\([^)]*\\) \\{([^{}]*)\\}").matcher(text);
        Pattern call = Pattern.compile("\\w\\s*\\(");
        int found = 0;
        while (body.find()) {
            found++;
            String calls = body.group(2).replaceAll("\\bMath\\.\\w+\\(", "");
            CHECK.due("the constructor of " + body.group(1) + " calls nothing", !call.matcher(calls).find());
        }
        CHECK.due("constructors that are written out", found, 2);
    }

    /** The room holds some 600,000 objects for all calls of a run: none are made behind the constructor. */
    private static void objects() {
        var threads = (com.sun.management.ThreadMXBean) java.lang.management.ManagementFactory.getThreadMXBean();
        if (!threads.isThreadAllocatedMemorySupported()) {
            return;
        }
        LeafAsks x = new LeafAsks();
        String branches = "t1 1 3;t1 2 3;c1 3 1;n1 4 0 9 1;";
        String orders = "1.1.0.1=6;1.1.0.1=4;1.1.1.1=1;1.1.2.1=2;1.1.3.1=3;";
        useAll(x, branches, orders);
        long id = Thread.currentThread().getId();
        long ahead = threads.getThreadAllocatedBytes(id);
        long idle = threads.getThreadAllocatedBytes(id) - ahead;
        ahead = threads.getThreadAllocatedBytes(id);
        useAll(x, branches, orders);
        long made = threads.getThreadAllocatedBytes(id) - ahead - idle;
        CHECK.due("bytes made by calls: " + made, made <= 1024);
    }

    private static void useAll(LeafAsks x, String branches, String orders) {
        Check.branches(x, branches);
        for (int i = 0; i < 20; i++) {
            Check.orders(x, orders);
            x.ticks(1);
            x.answers(0);
            x.keep(0);
            x.undo();
            x.leaf(1, 1, 0, 1);
            x.told(1, 4);
            x.next(1, 1, 0, 1);
            x.bulk(1, 1, -1, -1, 99, 99);
            x.walk(9);
            x.having(1, 0);
            x.status(0, 1);
            x.needs(1, 1);
            x.notice(0, 0);
            x.count(2);
            x.back(0);
        }
    }
}
