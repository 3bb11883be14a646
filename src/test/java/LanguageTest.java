import java.io.IOException;
import java.lang.management.ManagementFactory;
import java.lang.reflect.Constructor;
import java.lang.reflect.Field;
import java.lang.reflect.Method;
import java.lang.reflect.Modifier;
import java.nio.file.Files;
import java.nio.file.Path;
import java.util.Arrays;
import java.util.HashSet;
import java.util.List;
import java.util.Set;
import java.util.TreeSet;

/** What of LANGUAGE.md can be seen in the source and the compiled class, and how much room a run takes. */
public final class LanguageTest {
    private static final Path SOURCE = Path.of("src/main/java/AirMail.java");

    public static void main(String[] args) throws IOException {
        face();
        classes();
        words();
        lengths();
        room();
        Check.finish();
    }

    private static void face() {
        String[] face = {"int field(int,boolean,int)", "boolean lamp(int,boolean)", "int leg(int,int,int,int)",
            "int ground(int,int,int)", "int far(int,int)", "int weather(int,int,int,int)", "int sky(int,int,int)",
            "int word(int,int,int,int,int)", "int heard(int,int,int,int)", "int plane(int,int,int,int,int,boolean)",
            "boolean engine(int,int,int,int)", "int pilot(int,int)", "boolean learns(int,int)",
            "int bag(int,int,int,int,int)", "int train(int)", "int set(int,int)", "int sign(int)", "boolean end(int)",
            "int force(int,int)", "int flight(int,int,int,int)", "boolean cancel(int)", "int step(int)", "int may(int)",
            "int why(int,int)", "int count(int)", "int of(int,int)", "int who(int,int)", "int where(int,int)",
            "int flown(int,int)", "int lead(int)", "int judge(int)", "int coin()", "int find(int)",
            "int look(int,int,int)", "long chance(int,int,int)", "int lanes(int,int,int)", "int needs()", "int send()",
            "int plan(int)", "int lamps(int,int)", "int tried(int)", "int row(int)"};
        Set<String> is = new TreeSet<>();
        Set<String> publicNames = new HashSet<>();
        for (Method m : AirMail.class.getDeclaredMethods()) {
            if (!Modifier.isPrivate(m.getModifiers())) {
                Check.due(m + " is public", Modifier.isPublic(m.getModifiers()), true);
                StringBuilder parameters = new StringBuilder();
                for (Class<?> p : m.getParameterTypes()) {
                    parameters.append(parameters.length() == 0 ? "" : ",").append(p.getSimpleName());
                }
                is.add(m.getReturnType().getSimpleName() + " " + m.getName() + "(" + parameters + ")");
                publicNames.add(m.getName());
            }
        }
        Check.due("the face is " + is, is.equals(new TreeSet<>(Arrays.asList(face))), true);
        for (Method m : AirMail.class.getDeclaredMethods()) {
            boolean hidden = Modifier.isPrivate(m.getModifiers());
            Check.due(m + " has a name of its own", hidden && publicNames.contains(m.getName()), false);
        }
        for (Field f : AirMail.class.getDeclaredFields()) {
            Check.due(f + " is private", Modifier.isPrivate(f.getModifiers()) || f.getName().equals("NONE"), true);
        }
        Constructor<?>[] constructors = AirMail.class.getConstructors();
        Check.due("one public constructor", constructors.length, 1);
        Check.due("without parameters", constructors[0].getParameterCount(), 0);
        Check.due("final", Modifier.isFinal(AirMail.class.getModifiers()), true);
        Check.due("without a package", AirMail.class.getPackageName().isEmpty(), true);
    }

    private static void classes() {
        Class<?>[] inside = AirMail.class.getDeclaredClasses();
        Check.due("at most some twelve classes", inside.length + 1 <= 12, true);
        for (Class<?> c : inside) {
            Check.due(c + " is static", Modifier.isStatic(c.getModifiers()), true);
            Check.due(c + " is not public", Modifier.isPublic(c.getModifiers()), false);
            int fields = 0;
            for (Field f : c.getDeclaredFields()) {
                boolean shared = Modifier.isStatic(f.getModifiers());
                fields += shared ? 0 : 1;
                Check.due(f + " is final, if static", !shared || Modifier.isFinal(f.getModifiers()), true);
            }
            Check.due(c + " has some twenty fields: " + fields, fields <= 22, true);
            for (Method m : c.getDeclaredMethods()) {
                Check.due(m + " takes at most seven", m.getParameterCount() <= 7, true);
            }
            for (Constructor<?> k : c.getDeclaredConstructors()) {
                Check.due(k + " takes at most seven", k.getParameterCount() <= 7, true);
            }
        }
    }

    private static void words() throws IOException {
        String source = Files.readString(SOURCE);
        String[] never = {"->", "::", "finally", "synchronized", "assert", "catch", "Exact", "String.format", "System.out",
            "static {", "Random", "Thread", "double", "float", "instanceof", "\" +", "+ \"", "package "};
        for (String word : never) {
            Check.due("no " + word, source.contains(word), false);
        }
        for (int i = 0; i < source.length(); i++) {
            if (source.charAt(i) > 126) {
                Check.due("a sign beyond 126 at " + i, source.charAt(i), 126);
            }
        }
    }

    private static void lengths() throws IOException {
        List<String> lines = Files.readAllLines(SOURCE);
        int began = -1;
        String closing = "";
        for (int i = 0; i < lines.size(); i++) {
            String line = lines.get(i);
            Check.due("width of line " + (i + 1), line.length() <= 120, true);
            String indent = line.substring(0, line.length() - line.stripLeading().length());
            boolean method = line.endsWith(") {") || line.endsWith("throws NoSuchElementException {");
            if (began == -1 && method && indent.length() <= 8) {
                began = i;
                closing = indent + "}";
            } else if (began != -1 && line.equals(closing)) {
                Check.due("length of " + lines.get(began).trim(), i - began <= 60, true);
                began = -1;
            }
        }
    }

    /** The dearest calls, many times: what they make must stay small, for nothing is ever given back. */
    private static void room() {
        com.sun.management.ThreadMXBean bean =
            (com.sun.management.ThreadMXBean) ManagementFactory.getThreadMXBean();
        heavy(40);
        long before = bean.getCurrentThreadAllocatedBytes();
        int calls = heavy(400);
        long made = bean.getCurrentThreadAllocatedBytes() - before;
        Check.due("calls of one run", calls <= 512, true);
        Check.due("bytes made in a heavy run: " + made, made < 1000000, true);
        before = bean.getCurrentThreadAllocatedBytes();
        AirMail[] all = new AirMail[512];
        for (int i = 0; i < all.length; i++) {
            all[i] = new AirMail();
        }
        made = bean.getCurrentThreadAllocatedBytes() - before;
        Check.due("bytes made by 512 objects: " + made, made < 512 * 30000, true);
        Check.due("the last one", all[511].count(0), 0);
    }

    private static int heavy(int plans) {
        AirMail x = new AirMail();
        for (int i = 0; i < 8; i++) {
            x.field(0, i % 2 == 0, 9);
        }
        for (int i = 0; i < 8; i++) {
            x.leg(i, (i + 1) % 8, 10 + i, 0);
        }
        for (int i = 0; i < 8; i++) {
            x.plane(i, 5, 3000, 250, 60, true);
            x.pilot(i, 255);
        }
        x.sign(0x3A470000);
        x.end(2);
        x.force(0, 0);
        for (int i = 0; i < 30; i++) {
            x.bag(i % 8, (i + 3) % 8, 10, 0, 100);
        }
        for (int i = 0; i < 24; i++) {
            x.flight(i % 8, i % 8, i % 8, i);
        }
        for (int i = 0; i < plans; i++) {
            if (i % 4 == 0) {
                x.lamps(2, 200);
            } else if (i % 4 == 1) {
                x.send();
            } else {
                x.plan(200);
            }
        }
        return 8 + 8 + 16 + 3 + 30 + 24 + plans;
    }
}
