import java.io.IOException;
import java.lang.reflect.Constructor;
import java.lang.reflect.Field;
import java.lang.reflect.Method;
import java.lang.reflect.Modifier;
import java.nio.file.Files;
import java.nio.file.Path;
import java.util.Arrays;
import java.util.Set;
import java.util.TreeSet;
import java.util.regex.Pattern;

/** The public face of the document, and those rules of LANGUAGE.md that can be looked up. */
public final class FormTests {
    private static final String[] FACE = {
        "int years(int)", "int curve(int,int)", "int miss(int,int)", "int sheet(int,int,int)", "int write(int,int,int)",
        "int lose(int)", "int lay(int,int,int,int,int)", "int find(int,int)", "int ring(int,int,int)", "int odd(int,int)",
        "int pair(int,int,int)", "int of(int,int)", "int weight(int,int)", "int drop()", "int feed(long,int)", "int text()",
        "long total()", "long share(int,int)", "long below()", "long until(int,int)", "long order(int,int)",
        "long apart(int,int,int)", "long mean(int)", "int best(int)", "int span(int,int)", "long strange(int)",
        "long without(int)", "long draw(long)", "int drawn(int)", "int tell(int)", "long number()", "int keep()",
        "int back()", "long bears()", "int count(int)"};

    /** Rule 6, and what rules 2, 4 and 13 leave out. */
    private static final String[] WORDS = {"throw", "throws", "try", "catch", "synchronized", "assert", "Exact\\(",
        "System\\.(?!arraycopy)", "Random", "Thread", "->", "::", "@", "hashCode", "instanceof"};

    private static final Due due = new Due();

    public static void main(String[] args) throws IOException {
        theFace();
        nothingElseCanBeSeen();
        classesInside();
        sourceWords(Files.readString(Path.of("src/main/java/DatingTable.java")));
        due.end();
    }

    private static void theFace() {
        Set<String> seen = new TreeSet<>();
        for (Method m : DatingTable.class.getDeclaredMethods()) {
            if (Modifier.isPublic(m.getModifiers())) {
                due.holds(m.getName() + " is no static method", !Modifier.isStatic(m.getModifiers()));
                seen.add(asText(m));
            }
        }
        due.holds("the face is " + seen, seen.equals(new TreeSet<>(Arrays.asList(FACE))));
        int modifiers = DatingTable.class.getModifiers();
        due.holds("the class is public and final", Modifier.isPublic(modifiers) && Modifier.isFinal(modifiers));
        Constructor<?>[] made = DatingTable.class.getDeclaredConstructors();
        due.is("constructors", made.length, 1);
        due.holds("the constructor is public, without parameters",
            Modifier.isPublic(made[0].getModifiers()) && made[0].getParameterCount() == 0);
    }

    private static String asText(Method m) {
        StringBuilder text = new StringBuilder(m.getReturnType() + " " + m.getName() + "(");
        for (Class<?> parameter : m.getParameterTypes()) {
            text.append(text.charAt(text.length() - 1) == '(' ? "" : ",").append(parameter);
        }
        return text.append(")").toString();
    }

    private static void nothingElseCanBeSeen() {
        Set<String> names = new TreeSet<>();
        for (Method m : DatingTable.class.getDeclaredMethods()) {
            boolean isPublic = Modifier.isPublic(m.getModifiers());
            due.holds(m.getName() + " is public or private", isPublic || Modifier.isPrivate(m.getModifiers()));
            if (isPublic) {
                names.add(m.getName());
            }
        }
        for (Method m : DatingTable.class.getDeclaredMethods()) {
            due.holds(m.getName() + " bears no public name", Modifier.isPublic(m.getModifiers()) || !names.contains(m.getName()));
        }
        for (Class<?> inside : DatingTable.class.getDeclaredClasses()) {
            for (Method m : inside.getDeclaredMethods()) {
                due.holds(inside.getName() + "." + m.getName() + " bears no public name", !names.contains(m.getName()));
                due.holds(m.getName() + " takes at most seven", m.getParameterCount() <= 7);
            }
        }
        for (Field f : DatingTable.class.getDeclaredFields()) {
            due.holds(f.getName() + " is private", Modifier.isPrivate(f.getModifiers()));
        }
    }

    private static void classesInside() {
        Class<?>[] inside = DatingTable.class.getDeclaredClasses();
        due.holds("at most twelve classes", inside.length < 12);
        for (Class<?> c : inside) {
            due.holds(c.getName() + " is static", Modifier.isStatic(c.getModifiers()));
            due.holds(c.getName() + " is not public", !Modifier.isPublic(c.getModifiers()));
            int fields = 0;
            for (Field f : c.getDeclaredFields()) {
                due.holds(f.getName() + ": static ones are final",
                    !Modifier.isStatic(f.getModifiers()) || Modifier.isFinal(f.getModifiers()));
                fields += Modifier.isStatic(f.getModifiers()) ? 0 : 1;
            }
            due.holds(c.getName() + " has at most twenty fields", fields <= 20);
        }
    }

    private static void sourceWords(String source) {
        String code = source.replaceAll("(?s)/\\*.*?\\*/", "").replaceAll("//[^\n]*", "");
        for (String word : WORDS) {
            String sought = Character.isLetter(word.charAt(0)) && Character.isLetter(word.charAt(word.length() - 1))
                ? "\\b" + word + "\\b" : word;
            due.holds("the class has no " + word, !Pattern.compile(sought).matcher(code).find());
        }
        due.holds("it has no package", !Pattern.compile("(?m)^package").matcher(code).find());
        due.holds("it takes in java.util.Arrays alone",
            !Pattern.compile("(?m)^import (?!java\\.util\\.Arrays;)").matcher(code).find());
        due.holds("it has characters below 128 alone", source.chars().allMatch(c -> c < 128));
    }
}
