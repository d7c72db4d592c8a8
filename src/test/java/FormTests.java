import java.io.IOException;
import java.lang.reflect.Constructor;
import java.lang.reflect.Field;
import java.lang.reflect.Method;
import java.lang.reflect.Modifier;
import java.nio.file.Files;
import java.nio.file.Path;
import java.util.Set;
import java.util.TreeSet;
import java.util.regex.Matcher;
import java.util.regex.Pattern;

/** "The public face": the class has what the document writes there, read from the document itself, and no more. */
public final class FormTests {
    private static final Path DOCUMENT = Path.of("../shared/DOC.md");
    private static final Pattern METHOD = Pattern.compile("    public (int|long) (\\w+)\\((.*)\\);");
    private static final int CALLS = 35;

    private static final Due due = new Due();

    public static void main(String[] args) throws IOException {
        theFace(faceOf(Files.readString(DOCUMENT)));
        theClass();
        theConstructor();
        nothingElseCanBeSeen();
        anObjectIsMadeAndAsked();
        due.end();
    }

    private static Set<String> faceOf(String document) {
        Set<String> told = new TreeSet<>();
        Matcher m = METHOD.matcher(document);
        while (m.find()) {
            told.add(m.group(1) + " " + m.group(2) + "(" + m.group(3).replaceAll("(int|long) \\w+", "$1").replace(" ", "") + ")");
        }
        due.is("how many calls the document writes", told.size(), CALLS);
        return told;
    }

    private static void theFace(Set<String> told) {
        Set<String> seen = new TreeSet<>();
        for (Method m : DatingTable.class.getDeclaredMethods()) {
            if (Modifier.isPublic(m.getModifiers())) {
                due.holds(m.getName() + " is no static method", !Modifier.isStatic(m.getModifiers()));
                due.is(m.getName() + " names no exceptions", m.getExceptionTypes().length, 0);
                seen.add(asText(m));
            }
        }
        due.holds("the face is " + seen + ", the document's " + told, seen.equals(told));
    }

    private static String asText(Method m) {
        StringBuilder text = new StringBuilder(m.getReturnType() + " " + m.getName() + "(");
        for (Class<?> parameter : m.getParameterTypes()) {
            text.append(text.charAt(text.length() - 1) == '(' ? "" : ",").append(parameter);
        }
        return text.append(")").toString();
    }

    private static void theClass() {
        int modifiers = DatingTable.class.getModifiers();
        due.holds("the class is public", Modifier.isPublic(modifiers));
        due.holds("the class is final", Modifier.isFinal(modifiers));
        due.holds("the class is under no other one", DatingTable.class.getSuperclass() == Object.class);
        due.is("nor under an interface", DatingTable.class.getInterfaces().length, 0);
    }

    private static void theConstructor() {
        Constructor<?>[] made = DatingTable.class.getDeclaredConstructors();
        due.is("constructors", made.length, 1);
        due.holds("the constructor is public", Modifier.isPublic(made[0].getModifiers()));
        due.is("its parameters", made[0].getParameterCount(), 0);
    }

    private static void nothingElseCanBeSeen() {
        for (Method m : DatingTable.class.getDeclaredMethods()) {
            boolean isPublic = Modifier.isPublic(m.getModifiers());
            due.holds(m.getName() + " is public or private", isPublic || Modifier.isPrivate(m.getModifiers()));
        }
        for (Field f : DatingTable.class.getDeclaredFields()) {
            due.holds(f.getName() + " is private", Modifier.isPrivate(f.getModifiers()));
        }
        for (Class<?> c : DatingTable.class.getDeclaredClasses()) {
            boolean isHidden = !Modifier.isPublic(c.getModifiers()) && !Modifier.isProtected(c.getModifiers());
            due.holds(c.getName() + " is private or package-visible", isHidden);
            due.holds(c.getName() + " is static", Modifier.isStatic(c.getModifiers()));
        }
    }

    /** What an object answers is its own: no call of one reaches another one. */
    private static void anObjectIsMadeAndAsked() {
        DatingTable x = new DatingTable();
        DatingTable y = new DatingTable();
        x.find(2, 0);
        x.years(3);
        due.is("what was told to another object: total()", y.total(), 1);
        due.is("what was told to another object: years(5)", y.years(5), 30);
        due.is("what was told to this one: total()", x.total(), 3);
    }
}
