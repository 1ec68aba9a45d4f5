import java.lang.reflect.Constructor;
import java.lang.reflect.Field;
import java.lang.reflect.Method;
import java.lang.reflect.Modifier;
import java.nio.charset.StandardCharsets;
import java.nio.file.Files;
import java.nio.file.Path;
import java.util.Arrays;
import java.util.Set;
import java.util.TreeSet;
import java.util.regex.Matcher;
import java.util.regex.Pattern;

/** The face of the class, and those rules of LANGUAGE.md that can be read from its members and its lines. */
final class FaceTest {
    private static final String[] METHODS = {
        "int set(int,int)", "int task(int,int,int,int,int)", "int duration(int,int)", "int move(int,int)",
        "int offer(int,int,int)", "int trade()", "int refund(int,int)", "int give(int,int,int)",
        "int ofTask(int,int)", "long due(int)", "int money(int)", "int at(int,int)", "int ofContract(int,int)", "int count(int)",
        "int distance(int,int)", "int wouldBuy(int,int)", "int leastMoney(int)", "int endIf(int,int,int)", "int bestPlace(int)",
        "int critical()", "int lateBehind()", "int put(long)", "int wipe()", "int fault()", "int carryOut()", "int undo()",
        "int save(int)", "int restore(int)",
    };
    private static final String[] CONSTANTS = {
        "NO_SUCH=-1", "BAD_VALUE=-2", "BAD_TEXT=-3", "TOO_MANY=-4", "NOT_POSSIBLE=-5", "NONE=-6", "REFUND=0", "REACH=1",
    };

    public static void main(String[] args) throws Exception {
        methods();
        constants();
        membersInside();
        lines();
        Check.end();
    }

    private static void methods() {
        Class<?> face = SlackMarket.class;
        Check.holds("public and final", face.getModifiers() == (Modifier.PUBLIC | Modifier.FINAL));
        Constructor<?>[] constructors = face.getDeclaredConstructors();
        Check.is("constructors", constructors.length, 1);
        Check.holds("public constructor", constructors[0].getModifiers() == Modifier.PUBLIC
                && constructors[0].getParameterCount() == 0);
        Set<String> found = new TreeSet<>();
        for (Method method : face.getDeclaredMethods()) {
            if (Modifier.isPrivate(method.getModifiers())) {
                continue;
            }
            Check.is(method.getName() + " is just public", method.getModifiers(), Modifier.PUBLIC);
            String types = Arrays.toString(Arrays.stream(method.getParameterTypes()).map(Class::getName).toArray());
            found.add(method.getReturnType().getName() + " " + method.getName()
                    + types.replace('[', '(').replace(']', ')').replace(" ", ""));
        }
        Check.holds("the methods of the document", found.equals(new TreeSet<>(Arrays.asList(METHODS))));
    }

    private static void constants() throws Exception {
        Set<String> found = new TreeSet<>();
        for (Field field : SlackMarket.class.getDeclaredFields()) {
            boolean isConstant = Modifier.isStatic(field.getModifiers());
            if (isConstant) {
                Check.holds(field.getName() + " is final", Modifier.isFinal(field.getModifiers()));
            }
            if (!Modifier.isPrivate(field.getModifiers())) {
                found.add(field.getName() + "=" + field.getInt(null));
                Check.holds(field.getName() + " is a public int", Modifier.isPublic(field.getModifiers())
                        && field.getType() == int.class);
            }
        }
        Check.holds("the constants of the document", found.equals(new TreeSet<>(Arrays.asList(CONSTANTS))));
    }

    private static void membersInside() {
        Set<String> taken = new TreeSet<>();
        for (String method : METHODS) {
            taken.add(method.substring(method.indexOf(' ') + 1, method.indexOf('(')));
        }
        Class<?>[] inside = SlackMarket.class.getDeclaredClasses();
        Check.holds("at most twelve classes", inside.length + 1 <= 12);
        for (Class<?> one : inside) {
            Check.holds(one + " is static and private", Modifier.isStatic(one.getModifiers())
                    && Modifier.isPrivate(one.getModifiers()));
            long fields = Arrays.stream(one.getDeclaredFields()).filter(field -> !Modifier.isStatic(field.getModifiers())).count();
            Check.holds(one + " has at most twenty fields", fields <= 20);
            for (Method method : one.getDeclaredMethods()) {
                Check.holds(method + " has a name of its own", !taken.contains(method.getName()));
                Check.holds(method + " takes at most seven", method.getParameterCount() <= 7);
            }
        }
        for (Method method : SlackMarket.class.getDeclaredMethods()) {
            Check.holds(method + " has a name of its own",
                    Modifier.isPublic(method.getModifiers()) || !taken.contains(method.getName()));
        }
    }

    private static void lines() throws Exception {
        String text = Files.readString(Path.of("src/main/java/SlackMarket.java"), StandardCharsets.US_ASCII);
        String code = text.replaceAll("(?s)/\\*.*?\\*/", " ").replaceAll("//[^\n]*", " ");
        for (String word : new String[] {"throw", "throws", "try", "catch", "finally", "synchronized", "assert", "import", "package",
            "volatile", "transient", "native", "equals", "hashCode", "toString", "instanceof", "super", "var", "Object", "Thread",
            "Random", "Exception", "Error", "interface", "enum", "record(String", "protected"}) {
            Check.holds("no " + word, !Pattern.compile("\\b" + Pattern.quote(word) + "\\b").matcher(code).find());
        }
        for (String sign : new String[] {"->", "::", "\""}) {
            Check.holds("no " + sign, !code.contains(sign));
        }
        Check.holds("no annotation", !Pattern.compile("@[A-Z]").matcher(code).find());
        libraryCalls(code);
        madeInConstructorsAlone(code);
        shortMethods(code);
    }

    private static void libraryCalls(String code) {
        Matcher call = Pattern.compile("\\b([A-Z][a-z]\\w*)\\.(\\w+)").matcher(code);
        while (call.find()) {
            String name = call.group(1) + "." + call.group(2);
            Check.holds(name + " is of the list", Set.of("System.arraycopy", "Math.max", "Math.min").contains(name));
        }
    }

    /** All rows are made with their object, so that calls make nothing. */
    private static void madeInConstructorsAlone(String code) {
        for (String line : code.split("\n")) {
            if (line.contains("new ")) {
                Check.holds("made with its object: " + line.trim(),
                        line.contains(" final ") || line.contains("slots[slot] = new Market()")
                                || line.contains("ring[i] = new Market()"));
            }
        }
    }

    private static void shortMethods(String code) {
        int begin = -1;
        String[] all = code.split("\n", -1);
        for (int i = 0; i < all.length; i++) {
            if (all[i].matches("( {4}| {8})(?!private static final class)[a-z].*\\) \\{")) {
                begin = i;
            } else if (begin >= 0 && all[i].equals(all[begin].replaceAll("\\S.*", "") + "}")) {
                Check.holds("at most sixty lines: " + all[begin].trim(), i - begin < 60);
                begin = -1;
            }
        }
    }
}
