import java.io.IOException;
import java.lang.reflect.Constructor;
import java.lang.reflect.Field;
import java.lang.reflect.Method;
import java.lang.reflect.Modifier;
import java.nio.file.Files;
import java.nio.file.Path;
import java.util.Arrays;
import java.util.Set;
import java.util.TreeSet;
import java.util.regex.Matcher;
import java.util.regex.Pattern;

/** The public face, by reflection, and those rules of LANGUAGE.md that a text search can see. */
public final class FaceTest {
    private static final String[] FACE = {
        "int part(int,int,int,int)", "int of(int,int)", "int set(int,int,int)", "int want(int,boolean)",
        "int as(int,int)", "int sky(int,int)", "int draw(int)", "int age(int)", "int side(int,int)",
        "int stands()", "int first()", "int gust()", "int canWant()", "int span(int)", "int worst()",
        "int warmth(int)", "int idle()", "int beast(int)", "int cap(int)", "int beasts(int)",
        "int even(int,int)", "int camp(int)", "int grass(int,int,int)", "int campOf(int,int)",
        "int herd(int,int)", "int year(int,int,int)", "int moves(int,int)", "int feed(int,int)",
        "int wipe()", "int house()", "int sheet(int,int,int)", "long write(int,int,long)",
        "int copy(int,int,int,int,int)", "int lays(int,int)", "int costs(int,int)", "int read(int)",
        "int image()", "int undo()", "int tear()", "int count(int)", "int status(int)"};
    private static final String[] RULED_OUT = {"throw", "throws", "try", "catch", "finally", "synchronized",
        "assert", "Object", "HashMap", "Random", "Thread", "equals", "hashCode", "toString", "yield", "volatile",
        "double", "float", "protected"};

    public static void main(String[] args) throws IOException {
        face();
        names();
        text();
        Check.end();
    }

    private static void face() {
        Class<FeltHouse> c = FeltHouse.class;
        Check.due("modifiers of the class", c.getModifiers(), Modifier.PUBLIC | Modifier.FINAL);
        Check.due("constructors", c.getDeclaredConstructors().length, 1);
        for (Constructor<?> k : c.getDeclaredConstructors()) {
            Check.due("modifiers of the constructor", k.getModifiers(), Modifier.PUBLIC);
            Check.due("parameters of the constructor", k.getParameterCount(), 0);
        }
        Set<String> due = new TreeSet<>(Arrays.asList(FACE));
        Check.due("calls of the face", due.size(), 41);
        for (Method m : c.getDeclaredMethods()) {
            if (Modifier.isPrivate(m.getModifiers()) || m.isSynthetic()) {
                continue;
            }
            Check.due("modifiers of " + told(m), m.getModifiers(), Modifier.PUBLIC);
            Check.holds(told(m) + " belongs to the face", due.remove(told(m)));
        }
        Check.holds("the face is whole but for " + due, due.isEmpty());
        for (Field f : c.getDeclaredFields()) {
            Check.holds("field " + f.getName() + " is private", Modifier.isPrivate(f.getModifiers()));
            Check.holds("static field " + f.getName() + " is final",
                    !Modifier.isStatic(f.getModifiers()) || Modifier.isFinal(f.getModifiers()));
        }
        for (Class<?> inside : c.getDeclaredClasses()) {
            Check.holds(inside.getName() + " is static", Modifier.isStatic(inside.getModifiers()));
            Check.holds(inside.getName() + " is not public", !Modifier.isPublic(inside.getModifiers()));
        }
        Check.holds("at most twelve classes", c.getDeclaredClasses().length < 12);
    }

    private static String told(Method m) {
        StringBuilder s = new StringBuilder(m.getReturnType() + " " + m.getName() + "(");
        for (int i = 0; i < m.getParameterCount(); i++) {
            s.append(i == 0 ? "" : ",").append(m.getParameterTypes()[i]);
        }
        return s.append(')').toString();
    }

    /** No method but the face's own bears a name of the face, inside classes too. */
    private static void names() {
        Set<String> face = new TreeSet<>();
        for (String call : FACE) {
            face.add(call.substring(call.indexOf(' ') + 1, call.indexOf('(')));
        }
        for (Method m : FeltHouse.class.getDeclaredMethods()) {
            Check.holds(m.getName() + " has a name of its own",
                    Modifier.isPublic(m.getModifiers()) || !face.contains(m.getName()));
            Check.holds(m.getName() + " takes at most seven", m.getParameterCount() <= 7);
        }
        for (Class<?> inside : FeltHouse.class.getDeclaredClasses()) {
            int fields = 0;
            for (Method m : inside.getDeclaredMethods()) {
                Check.holds(inside.getName() + "." + m.getName() + " has a name of its own", !face.contains(m.getName()));
                Check.holds(m.getName() + " takes at most seven", m.getParameterCount() <= 7);
            }
            for (Field f : inside.getDeclaredFields()) {
                fields += Modifier.isStatic(f.getModifiers()) ? 0 : 1;
            }
            Check.holds(inside.getName() + " has at most twenty fields", fields <= 20);
        }
    }

    private static void text() throws IOException {
        String source = Files.readString(Path.of("src/main/java/FeltHouse.java"));
        for (char sign : source.toCharArray()) {
            if (sign > 126) {
                Check.holds("sign " + (int) sign + " is plain", false);
            }
        }
        String code = source.replaceAll("(?s)/\\*.*?\\*/", "").replaceAll("//[^\n]*", "");
        for (String word : RULED_OUT) {
            Matcher m = Pattern.compile("\\b" + word + "\\b").matcher(code);
            Check.holds("the code is without " + word, !m.find());
        }
        Check.holds("no lambda or method reference", !code.contains("->") && !code.contains("::"));
        Matcher imports = Pattern.compile("import ([^;]+);").matcher(code);
        while (imports.find()) {
            String name = imports.group(1);
            Check.holds("import of " + name, name.equals("java.util.Arrays") || name.equals("java.util.ArrayList")
                    || name.equals("java.util.List"));
        }
        Check.holds("no name ends in Exact", !Pattern.compile("Exact\\b").matcher(code).find());
        Check.holds("no package line", !Pattern.compile("(?m)^package").matcher(code).find());
    }
}
