import java.io.IOException;
import java.lang.reflect.Constructor;
import java.lang.reflect.Field;
import java.lang.reflect.Member;
import java.lang.reflect.Method;
import java.lang.reflect.Modifier;
import java.nio.file.Files;
import java.nio.file.Path;
import java.util.Arrays;
import java.util.Set;
import java.util.TreeSet;
import java.util.regex.Pattern;

/** The face is the document's and no more; the source holds nothing that LANGUAGE.md rules out. */
public final class FaceTest {
    private static final Checks C = new Checks();

    private static final String FACE = "feed(int,int,int,int,int)int end(int)boolean chart()int fault()int "
        + "light(int,int)int character(int,int)int ship(int,int)int visible(int,int)int now(int)int douse(int)int "
        + "kindle(int)int fill(int,int)int shift(int,int)int steer(int,int)int haze(int)int seconds(int)int undo()int "
        + "confused()int change()int changes()int apart(int,int)int both(int,int)int fits()int fitsAt(int)int ask()int "
        + "spots(int)int spotsAt()int fix()int fixAt()int most()int burn(int)int waits(int)int mean(int)int tag(int)int "
        + "byteAt(int)int drawn(int,int)int odds(int,int,int)int book(int)int told(int)int sentence()int said(int)int "
        + "image(int)boolean restore(int)boolean count(int)int";

    public static void main(String[] args) throws IOException {
        face();
        names(CoastLights.class);
        for (Class<?> inside : CoastLights.class.getDeclaredClasses()) {
            C.due(inside + " is static", Modifier.isStatic(inside.getModifiers()), true);
            C.due(inside + " has at most some twenty fields", fields(inside) <= 20, true);
            names(inside);
        }
        C.due("some twenty fields", fields(CoastLights.class) <= 20, true);
        C.due("some twelve classes", CoastLights.class.getDeclaredClasses().length < 12, true);
        source(Files.readString(Path.of(args[0])));
        C.close();
    }

    private static String told(Method m) {
        StringBuilder s = new StringBuilder(m.getName()).append('(');
        for (Class<?> p : m.getParameterTypes()) {
            s.append(s.charAt(s.length() - 1) == '(' ? "" : ",").append(p.getSimpleName());
        }
        return s.append(')').append(m.getReturnType().getSimpleName()).toString();
    }

    private static void face() {
        Set<String> due = new TreeSet<>(Arrays.asList(FACE.split(" ")));
        Set<String> got = new TreeSet<>();
        for (Method m : CoastLights.class.getDeclaredMethods()) {
            if (Modifier.isPublic(m.getModifiers())) {
                got.add(told(m));
            }
            hidden(m);
        }
        C.due("the methods are " + got, got.equals(due), true);
        for (Field f : CoastLights.class.getDeclaredFields()) {
            if (!f.getName().equals("NONE")) {
                hidden(f);
            }
        }
        for (Constructor<?> c : CoastLights.class.getDeclaredConstructors()) {
            C.due("a constructor without arguments", c.getParameterCount(), 0);
        }
        C.due("one constructor", CoastLights.class.getDeclaredConstructors().length, 1);
        C.due("final", Modifier.isFinal(CoastLights.class.getModifiers()), true);
    }

    private static void hidden(Member m) {
        boolean told = Modifier.isPublic(m.getModifiers()) && m instanceof Method;
        C.due(m + " is told or private", told || Modifier.isPrivate(m.getModifiers()), true);
    }

    private static void names(Class<?> of) {
        for (Method m : of.getDeclaredMethods()) {
            boolean like = false;
            for (String f : FACE.split(" ")) {
                like |= f.startsWith(m.getName() + "(");
            }
            C.due(m + " bears the name of a public one", like && Modifier.isPrivate(m.getModifiers()), false);
            C.due(m + " takes at most seven", m.getParameterCount() <= 7, true);
        }
    }

    private static int fields(Class<?> of) {
        int n = 0;
        for (Field f : of.getDeclaredFields()) {
            n += Modifier.isStatic(f.getModifiers()) ? 0 : 1;
        }
        return n;
    }

    private static void source(String text) {
        String code = text.replaceAll("(?s)/\\*.*?\\*/", "").replaceAll("//[^\n]*", "").replaceAll("\"[^\"]*\"", "\"\"");
        for (String bad : new String[] {"->", "::", "\\btry\\b", "\\bcatch\\b", "\\bfinally\\b", "\\bassert\\b",
            "\\bsynchronized\\b", "\\bstatic \\{", "Exact\\b", "\\bpackage\\b", "\\bSystem\\.(?!arraycopy)", "\\bprotected\\b",
            "\\.equals\\(", "\\bhashCode\\b", "\\btoString\\b", "\"\" \\+", "\\+ \"\"", "\\bvar\\b"}) {
            C.due("the source has " + bad, Pattern.compile(bad).matcher(code).find(), false);
        }
        int imports = code.split("\nimport ", -1).length + (code.startsWith("import ") ? 1 : 0) - 1;
        C.due("one import", imports, 1);
        for (char c : text.toCharArray()) {
            if (c > 126) {
                C.due("plain letters alone", c, 126);
            }
        }
    }
}
