import java.io.IOException;
import java.lang.reflect.Constructor;
import java.lang.reflect.Field;
import java.lang.reflect.Method;
import java.lang.reflect.Modifier;
import java.nio.file.Files;
import java.nio.file.Path;
import java.util.ArrayList;
import java.util.List;
import java.util.Random;
import java.util.TreeSet;
import java.util.regex.Matcher;
import java.util.regex.Pattern;

/** The face is the document's and no other, and no call throws, whatever numbers come. */
public final class FaceTest {
    private static final Path DOC = Path.of("..", "shared", "DOC.md");

    private static String toldFace() throws IOException {
        String doc = Files.readString(DOC);
        int from = doc.indexOf("```java") + 7;
        return doc.substring(from, doc.indexOf("```", from));
    }

    private static void methods(String face) {
        TreeSet<String> told = new TreeSet<>();
        Matcher m = Pattern.compile("public int (\\w+)\\((.*?)\\);").matcher(face);
        while (m.find()) told.add(m.group(1) + "/" + (m.group(2).isBlank() ? 0 : m.group(2).split(",").length));
        TreeSet<String> there = new TreeSet<>();
        for (Method one : TicketShore.class.getDeclaredMethods()) {
            if (Modifier.isPrivate(one.getModifiers())) continue;
            Checks.yes("public: " + one.getName(), Modifier.isPublic(one.getModifiers()));
            Checks.yes("int: " + one.getName(), one.getReturnType() == int.class);
            for (Class<?> type : one.getParameterTypes()) Checks.yes("takes int: " + one.getName(), type == int.class);
            there.add(one.getName() + "/" + one.getParameterCount());
        }
        Checks.eq("methods told", told.size(), 54);
        Checks.yes("the methods are those told: " + there, told.equals(there));
    }

    private static void constants(String face) throws IllegalAccessException {
        Matcher m = Pattern.compile("([A-Z]+) = (-?\\d+)").matcher(face);
        List<String> told = new ArrayList<>();
        while (m.find()) told.add(m.group(1) + "=" + m.group(2));
        List<String> there = new ArrayList<>();
        for (Field one : TicketShore.class.getDeclaredFields()) {
            if (Modifier.isPrivate(one.getModifiers())) continue;
            int all = Modifier.PUBLIC | Modifier.STATIC | Modifier.FINAL;
            Checks.eq("a public constant: " + one.getName(), one.getModifiers() & all, all);
            there.add(one.getName() + "=" + one.getInt(null));
        }
        Checks.yes("the constants are those told: " + there, told.equals(there));
    }

    private static void theClass() {
        Checks.yes("final", Modifier.isFinal(TicketShore.class.getModifiers()));
        Constructor<?>[] all = TicketShore.class.getDeclaredConstructors();
        Checks.eq("constructors", all.length, 1);
        Checks.yes("public, without arguments", Modifier.isPublic(all[0].getModifiers()) && all[0].getParameterCount() == 0);
    }

    private static final int[] WILD = {0, 1, 2, 3, 5, 7, 8, 13, 14, 23, 24, 25, 39, 40, 63, 96, 99, 255, 999, 1999, 2000,
        65535, -1, -2, Integer.MAX_VALUE, Integer.MIN_VALUE, Integer.MAX_VALUE - 1, Integer.MIN_VALUE + 1, 1 << 30, -(1 << 30)};

    /** Any call with any numbers, on objects in all kinds of states. */
    private static void neverThrows() {
        Random random = new Random(55);
        List<Method> face = new ArrayList<>();
        for (Method one : TicketShore.class.getDeclaredMethods()) if (Modifier.isPublic(one.getModifiers())) face.add(one);
        face.sort((a, b) -> a.getName().compareTo(b.getName()));
        for (int run = 0; run < 300; run++) {
            TicketShore x = run % 2 == 0 ? new TicketShore() : Checks.landed(run % 15);
            for (int call = 0; call < 480; call++) {
                Method one = face.get(random.nextInt(face.size()));
                Object[] args = new Object[one.getParameterCount()];
                for (int i = 0; i < args.length; i++) {
                    args[i] = random.nextInt(3) == 0 ? WILD[random.nextInt(WILD.length)] : random.nextInt(8);
                }
                try {
                    one.invoke(x, args);
                } catch (ReflectiveOperationException e) {
                    Checks.yes(one.getName() + java.util.Arrays.toString(args) + " threw " + e.getCause(), false);
                }
            }
        }
        Checks.yes("the wild runs ended", true);
    }

    public static void main(String[] args) throws IOException, IllegalAccessException {
        String face = toldFace();
        methods(face);
        constants(face);
        theClass();
        neverThrows();
        Checks.end("FaceTest");
    }
}
