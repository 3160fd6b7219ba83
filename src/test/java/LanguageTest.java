import java.io.IOException;
import java.lang.reflect.Constructor;
import java.lang.reflect.Field;
import java.lang.reflect.Member;
import java.lang.reflect.Method;
import java.lang.reflect.Modifier;
import java.nio.file.Files;
import java.nio.file.Path;
import java.util.List;
import java.util.Set;
import java.util.TreeSet;
import java.util.regex.Matcher;
import java.util.regex.Pattern;

/** The face of the document, and those rules of LANGUAGE.md that can be looked at without reading the program. */
public final class LanguageTest {
    /** The methods of the document's public face. */
    private static final String FACE =
        "int door(int,int,boolean); int isOpen(int,int); int height(int,int); int mark(int,int,boolean); "
        + "int squareOf(int,int); int moon(int); int round(int); int rest(); int walker(int,int,int); "
        + "int of(int,int); int set(int,int,int); int wake(int,boolean); int turn(int,int); int as(int,int); "
        + "int step(int); int minutes(int); int bed(); int seed(int); int now(int); int on(int,int); "
        + "int river(int); int meet(int,int); int home(int); int safe(int); int barred(int,int); "
        + "int lamp(int); int watch(int); int loop(int); long odds(int,int,int); int likeliest(int,int); "
        + "int feed(int,int); int wipe(); int ward(); int sheet(int,int,int); long write(int,int,long); "
        + "int copy(int,int,int,int,int); int lays(int); int track(int,int); int whose(int); int image(); "
        + "int undo(); int tear(); int count(int); int status(int)";

    public static void main(String[] args) throws IOException {
        face();
        words();
        room();
        Due.end();
    }

    private static void say(String what, boolean is) {
        Due.is(what, is ? 1 : 0, 1);
    }

    private static void face() {
        Set<String> due = new TreeSet<>(List.of(FACE.split("; ")));
        Set<String> names = new TreeSet<>();
        Set<String> got = new TreeSet<>();
        for (Method method : SleepWard.class.getDeclaredMethods()) {
            if (!Modifier.isPrivate(method.getModifiers())) {
                names.add(method.getName());
                StringBuilder types = new StringBuilder();
                for (Class<?> type : method.getParameterTypes()) {
                    types.append(types.length() > 0 ? "," : "").append(type);
                }
                got.add(method.getReturnType() + " " + method.getName() + "(" + types + ")");
            }
        }
        Due.is("methods of the document", due.size(), 44);
        say("the face is " + due + ", not " + got, due.equals(got));
        say("final", Modifier.isFinal(SleepWard.class.getModifiers()));
        for (Constructor<?> c : SleepWard.class.getDeclaredConstructors()) {
            say("one public constructor", Modifier.isPublic(c.getModifiers()) && c.getParameterCount() == 0);
        }
        for (Field field : SleepWard.class.getDeclaredFields()) {
            say(field + " is private", Modifier.isPrivate(field.getModifiers()));
        }
        members(SleepWard.class, names);
        say("at most twelve classes", SleepWard.class.getDeclaredClasses().length < 12);
        for (Class<?> inside : SleepWard.class.getDeclaredClasses()) {
            say(inside + " is static", Modifier.isStatic(inside.getModifiers()) && !Modifier.isPublic(inside.getModifiers()));
            members(inside, names);
        }
    }

    private static void members(Class<?> of, Set<String> names) {
        for (Method method : of.getDeclaredMethods()) {
            boolean isFace = of == SleepWard.class && Modifier.isPublic(method.getModifiers());
            say(method + " has a name of its own", isFace || !names.contains(method.getName()));
            say(method + " has at most seven parameters", method.getParameterCount() <= 7);
        }
        int fields = 0;
        for (Field field : of.getDeclaredFields()) {
            fields += Modifier.isStatic(field.getModifiers()) ? 0 : 1;
            say(field + " is final if static", isFinalIfStatic(field));
            say(field + " is a constant if static", isConstantIfStatic(field));
        }
        say(of + " has at most twenty fields", fields <= 20);
    }

    private static boolean isFinalIfStatic(Member member) {
        return !Modifier.isStatic(member.getModifiers()) || Modifier.isFinal(member.getModifiers());
    }

    private static boolean isConstantIfStatic(Field field) {
        return !Modifier.isStatic(field.getModifiers()) || Set.of("int", "long", "boolean", "char", "String",
            "int[]", "long[]", "char[]", "byte[]").contains(field.getType().getSimpleName());
    }

    private static void words() throws IOException {
        String source = Files.readString(Path.of("src/main/java/SleepWard.java"));
        for (int i = 0; i < source.length(); i++) {
            if (source.charAt(i) > 126) {
                say("a sign above 126 at " + i, false);
            }
        }
        String code = source.replaceAll("(?s)/\\*.*?\\*/", "").replaceAll("//[^\n]*", "").replaceAll("\"[^\"\n]*\"", "\"\"");
        String[] never = {"\\bthrow\\b", "\\bthrows\\b", "\\btry\\b", "\\bcatch\\b", "\\bsynchronized\\b", "\\bassert\\b",
            "->", "::", "\\bpackage\\b", "Exact\\b", "\\bObject\\b", "\\bMap\\b", "\\bequals\\b", "\\bhashCode\\b",
            "\\btoString\\b", "System\\.(?!arraycopy)", "Arrays\\.(?!fill|copyOf)", "import (?!java\\.util\\.(Arrays|ArrayList|List);)",
            "\\bstatic \\{", "\\bvar\\b", "\\bprotected\\b"};
        for (String word : never) {
            say("no " + word, !Pattern.compile(word).matcher(code).find());
        }
        Matcher m = Pattern.compile("(?m)^( +)[\\w\\[\\] ]+\\([^;{]*\\) \\{\n(?s:.*?)^\\1\\}\n").matcher(code);
        int methods = 0;
        while (m.find()) {
            methods++;
            say("a method of more than sixty lines: " + m.group().split("\n")[0], m.group().split("\n").length <= 60);
        }
        say("methods were seen", methods > 44);
    }

    /** No call makes an object: what a run makes is what its objects are made with. */
    private static void room() {
        com.sun.management.ThreadMXBean threads =
            (com.sun.management.ThreadMXBean) java.lang.management.ManagementFactory.getThreadMXBean();
        long id = Thread.currentThread().getId();
        long leastMade = Long.MAX_VALUE;
        long leastMore = Long.MAX_VALUE;
        // the machine makes objects of its own when it comes to a class or a method first
        for (int i = 0; i < 5; i++) {
            long before = threads.getThreadAllocatedBytes(id);
            SleepWard x = new SleepWard();
            long made = threads.getThreadAllocatedBytes(id);
            fill(x);
            for (int round = 0; round < 6; round++) {
                everyCall(x);
            }
            long after = threads.getThreadAllocatedBytes(id);
            leastMade = Math.min(leastMade, made - before);
            leastMore = Math.min(leastMore, after - made);
        }
        say("a new object takes " + leastMade + " bytes", leastMade < 5000);
        Due.is("bytes that its calls take", leastMore, 0);
    }

    private static void fill(SleepWard x) {
        for (int i = 0; i < 8; i++) {
            x.walker(i % 6, 3 * i, i % 4);
        }
        x.mark(6, 1, true);
        x.mark(8, 1, true);
        x.mark(16, 1, true);
        x.sheet(0, 64, 40);
        x.sheet(1, 64, 40);
    }

    /** All 44 of them, with what makes them dear. */
    private static void everyCall(SleepWard x) {
        x.door(0, 1, false);
        x.isOpen(0, 1);
        x.height(3, 4);
        x.mark(4, 0, true);
        x.squareOf(4, 3);
        x.moon(4);
        x.rest();
        x.round(12);
        x.walker(0, 0, 0);
        x.of(0, 5);
        x.set(0, 2, 12);
        x.wake(0, false);
        x.turn(7, 3);
        x.as(5, 0);
        x.step(4);
        x.minutes(500);
        x.bed();
        x.seed(7);
        x.now(5);
        x.on(0, 500);
        x.river(0);
        x.meet(0, 1);
        x.home(1);
        x.safe(500);
        x.barred(120, 0);
        x.lamp(120);
        x.watch(120);
        x.loop(0);
        x.odds(4, 0, 15);
        x.likeliest(4, 15);
        x.wipe();
        x.feed('d', 1);
        x.feed('r' << 24 | 'y' << 16 | '7' << 8 | ';', 4);
        x.feed('m' << 24 | 'o' << 16 | 'o' << 8 | 'n', 4);
        x.ward();
        x.feed('m' << 24 | 'o' << 16 | 'o' << 8 | 'n', 4);
        x.feed('1', 1);
        x.ward();
        x.sheet(2, 8, 40);
        x.write(2, 39, 9L);
        x.copy(0, 0, 1, 0, 40);
        x.lays(0);
        x.track(0, 1);
        x.whose(0);
        x.image();
        x.undo();
        x.tear();
        x.count(6);
        x.status(-1);
    }
}
