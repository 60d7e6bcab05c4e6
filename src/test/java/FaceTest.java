import java.io.IOException;
import java.lang.reflect.Constructor;
import java.lang.reflect.Field;
import java.lang.reflect.Method;
import java.lang.reflect.Modifier;
import java.nio.file.Files;
import java.nio.file.Path;
import java.util.Arrays;
import java.util.Set;
import java.util.TreeSet;

/** The document's face, and the rules of LANGUAGE.md that can be seen from outside or by a word. */
public final class FaceTest {
    private static final String[] FACE = {
        "int feed(int,int,int,int,int)", "boolean end(int)", "int tell()", "int fault()",
        "int zone(int,int,int)", "int point(int,int,int)", "int resource(int,int,int,int,boolean)",
        "int step(int,int,int)", "int drop(int,boolean)", "boolean set(int,int,int)",
        "boolean keep(int)", "boolean back(int)", "int count(int)",
        "int zoneOf(int,int) throws java.util.NoSuchElementException",
        "int resourceOf(int,int) throws java.util.NoSuchElementException",
        "int line(int,int,boolean)", "int worth(int,int)", "int wants(int,int)",
        "int level(int,int,boolean)", "int price(int)", "int net(int)", "int served(int)",
        "int taken(int,int)", "int binds(int)", "long surplus()", "long rent(int)",
        "long paid(int)", "long charged(int)", "int without(int,int)", "int pivotal(int,int)",
        "long wider(int,int,boolean)", "int needs(int)", "int freely(int)",
        "long gain(int,int,int)", "int best(int,int)",
    };
    private static final String[] BANNED = {
        "catch", "finally", "try {", "->", "::", "synchronized", "assert", "static {", "System.",
        "Exact(", "instanceof", "Thread", "Random", "\" +", "+ \"", "getMessage", "@Override",
    };

    private FaceTest() {
    }

    public static void main(String[] args) throws IOException {
        theClass();
        theMethods();
        theFields();
        theClassesInside();
        theSource();
        Check.finish();
    }

    private static void theClass() {
        Class<?> c = ZoneCapacity.class;
        Check.due("public final", Modifier.isPublic(c.getModifiers()) && Modifier.isFinal(c.getModifiers()), true);
        Check.due("no package", c.getPackageName().isEmpty(), true);
        Constructor<?>[] made = c.getDeclaredConstructors();
        Check.due("constructors", made.length, 1);
        Check.due("public constructor", Modifier.isPublic(made[0].getModifiers()), true);
        Check.due("without parameters", made[0].getParameterCount(), 0);
    }

    private static void theMethods() {
        Set<String> names = new TreeSet<>();
        Set<String> got = new TreeSet<>();
        for (Method m : ZoneCapacity.class.getDeclaredMethods()) {
            if (Modifier.isPublic(m.getModifiers())) {
                names.add(m.getName());
                got.add(told(m));
            } else {
                Check.due(m + " is private", Modifier.isPrivate(m.getModifiers()), true);
            }
        }
        Set<String> want = new TreeSet<>(Arrays.asList(FACE));
        for (String each : want) {
            Check.due(each + " is there", got.contains(each), true);
        }
        for (String each : got) {
            Check.due(each + " is in the document", want.contains(each), true);
        }
        noOtherMethodNamed(names, ZoneCapacity.class);
        for (Class<?> c : ZoneCapacity.class.getDeclaredClasses()) {
            noOtherMethodNamed(names, c);
        }
    }

    private static void noOtherMethodNamed(Set<String> names, Class<?> c) {
        for (Method m : c.getDeclaredMethods()) {
            boolean face = c == ZoneCapacity.class && Modifier.isPublic(m.getModifiers());
            Check.due(m + " bears a public one's name", !face && names.contains(m.getName()), false);
            Check.due(m + " has at most seven parameters", m.getParameterCount() <= 7, true);
        }
    }

    private static String told(Method m) {
        StringBuilder b = new StringBuilder();
        b.append(m.getReturnType().getName()).append(' ').append(m.getName()).append('(');
        for (int i = 0; i < m.getParameterCount(); i++) {
            b.append(i == 0 ? "" : ",").append(m.getParameterTypes()[i].getName());
        }
        b.append(')');
        for (Class<?> e : m.getExceptionTypes()) {
            b.append(" throws ").append(e.getName());
        }
        return b.toString();
    }

    private static void theFields() {
        for (Field f : ZoneCapacity.class.getDeclaredFields()) {
            boolean constant = f.getName().equals("NONE") || f.getName().equals("NO_NUMBER");
            int how = f.getModifiers();
            Check.due(f + " is public", Modifier.isPublic(how), constant);
            Check.due(f + " is public or private", constant || Modifier.isPrivate(how), true);
            Check.due(f + ", if static, is final", !Modifier.isStatic(how) || Modifier.isFinal(how), true);
        }
    }

    private static void theClassesInside() {
        Class<?>[] inside = ZoneCapacity.class.getDeclaredClasses();
        Check.due("classes", inside.length <= 11, true);
        for (Class<?> c : inside) {
            Check.due(c + " is private", Modifier.isPrivate(c.getModifiers()), true);
            Check.due(c + " is static", Modifier.isStatic(c.getModifiers()), true);
            int fields = 0;
            for (Field f : c.getDeclaredFields()) {
                boolean fixed = Modifier.isStatic(f.getModifiers());
                fields += fixed ? 0 : 1;
                Check.due(f + ", if static, is final", !fixed || Modifier.isFinal(f.getModifiers()), true);
            }
            Check.due(c + " has at most twenty fields", fields <= 20, true);
        }
    }

    private static void theSource() throws IOException {
        Path path = Path.of("src/main/java/ZoneCapacity.java");
        String source = Files.readString(path);
        for (String word : BANNED) {
            Check.due("the source has [" + word + "]", source.contains(word), false);
        }
        int rows = 0;
        for (String row : source.split("\n")) {
            if (row.startsWith("import ")) {
                Check.due(row, row.equals("import java.util.NoSuchElementException;"), true);
            }
            if (row.contains("throw new ")) {
                Check.due(row, row.strip().equals("throw new NoSuchElementException();"), true);
            }
            // rows are read and written where the index is looked at, in at(), put() and copyRow()
            String bare = row.replace("new int[", "").replace("int[]", "").strip();
            rows += bare.contains("[") ? 1 : 0;
            for (int i = 0; i < row.length(); i++) {
                Check.due("a sign beyond 127", row.charAt(i) > 127, false);
            }
        }
        Check.due("places that go into an array", rows, 3);
    }
}
