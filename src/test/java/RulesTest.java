import java.io.IOException;
import java.lang.reflect.Constructor;
import java.lang.reflect.Field;
import java.lang.reflect.Member;
import java.lang.reflect.Method;
import java.lang.reflect.Modifier;
import java.nio.file.Files;
import java.nio.file.Path;
import java.util.HashSet;
import java.util.Set;
import java.util.regex.Matcher;
import java.util.regex.Pattern;

/** Those rules of LANGUAGE.md that can be seen from outside, and from the source by its words. */
public final class RulesTest {
    private static final String FACE = "sort(int,int,int):int person(int):int takeBack():int set(int,int):int "
        + "feed(int,long):int court():int chance(int):long right(int):long best(int,int,int):long "
        + "strike(int,int,int):int turns():long order(int):int put(int):int unput():int lawful():int "
        + "slip(boolean):long second():long more(int):long rests():int rest(int):int paper(int,int):long "
        + "coming():long come(int):int seldom(int,int):long finest():int lot(int):long trade():int "
        + "wrongly(int,int,int):long asked(int,int):long image():int restore():int count(int):int";
    private static final Pattern FORBIDDEN = Pattern.compile(
        "\\b(throw|throws|try|catch|synchronized|assert|import|package|native|hashCode|toString|float|double)\\b"
        + "|->|::|Exact\\b|System\\.(?!arraycopy)");

    private static String signature(Method m) {
        StringBuilder s = new StringBuilder(m.getName()).append('(');
        for (Class<?> type : m.getParameterTypes()) {
            s.append(s.charAt(s.length() - 1) == '(' ? "" : ",").append(type.getName());
        }
        return s.append("):").append(m.getReturnType().getName()).toString();
    }

    private static void hidden(Member m) {
        Due.due(m + " is private", Modifier.isPrivate(m.getModifiers()) ? 1 : 0, 1);
    }

    private static void face() {
        Class<?> c = StruckJury.class;
        Due.due("public and final", c.getModifiers() & (Modifier.PUBLIC | Modifier.FINAL), Modifier.PUBLIC | Modifier.FINAL);
        Set<String> due = new HashSet<>(Set.of(FACE.split(" ")));
        for (Method m : c.getDeclaredMethods()) {
            if (!due.remove(signature(m))) {
                hidden(m);
            } else {
                Due.due(m + " is public", Modifier.isPublic(m.getModifiers()) ? 1 : 0, 1);
            }
        }
        Due.due("methods that lack: " + due, due.size(), 0);
        Due.due("constructors", c.getDeclaredConstructors().length, 1);
        for (Constructor<?> made : c.getDeclaredConstructors()) {
            Due.due("the constructor", made.getParameterCount() + (Modifier.isPublic(made.getModifiers()) ? 0 : 9), 0);
        }
        for (Field f : c.getDeclaredFields()) {
            hidden(f);
        }
    }

    /** No method of a class inside bears the name of one of the face. */
    private static void inside() {
        for (Class<?> c : StruckJury.class.getDeclaredClasses()) {
            Due.due(c + " is static", Modifier.isStatic(c.getModifiers()) ? 1 : 0, 1);
            for (Method m : c.getDeclaredMethods()) {
                Due.due(m + " has a name of its own", (" " + FACE).contains(" " + m.getName() + "(") ? 1 : 0, 0);
                Due.due(m + " takes too much", m.getParameterCount() > 7 ? 1 : 0, 0);
            }
        }
    }

    private static void words(String source) {
        String code = source.replaceAll("(?s)/\\*.*?\\*/", "").replaceAll("//[^\n]*", "");
        Matcher forbidden = FORBIDDEN.matcher(code);
        while (forbidden.find()) {
            Due.due("a word that may not stand: " + forbidden.group(), 1, 0);
        }
    }

    public static void main(String[] args) throws IOException {
        face();
        inside();
        words(Files.readString(Path.of("src/main/java/StruckJury.java")));
        Due.end();
    }
}
