import java.io.IOException;
import java.lang.reflect.Constructor;
import java.lang.reflect.Field;
import java.lang.reflect.Method;
import java.lang.reflect.Modifier;
import java.nio.file.Files;
import java.nio.file.Path;
import java.util.Arrays;
import java.util.TreeSet;
import java.util.regex.Matcher;
import java.util.regex.Pattern;

/** The document's face and nothing beside it; words that LANGUAGE.md rules out. */
public final class FaceTest {
    private static final Due DUE = new Due();
    private static final String FACE = "machine(int,int,int) machineIs(int,int) as(int,int) tie(int,int,int) say(int,int,boolean)"
        + " sayingIs(int,int) unsay(int) most(int) feed(long,int) text() fits(int) bars(int) many() which(int) sure(int) blame(int)"
        + " leads(int) known() pair(int) more() without(int,int) next(int) rounds() likely() chance(int,int) worst(int,int) mend(int)"
        + " mended(int) voice(int,int,int) body(int) sheet(int,int,int) put(int,int,int) move(int,int,int,int,int) says(int) image()"
        + " restore() tell(int) check() count(int) told(int)";

    public static void main(String[] args) throws IOException {
        face();
        members();
        words();
        library();
        lengths();
        DUE.end();
    }

    private static void face() {
        TreeSet<String> due = new TreeSet<>(Arrays.asList(FACE.split(" ")));
        TreeSet<String> got = new TreeSet<>();
        for (Method m : PoliteHall.class.getDeclaredMethods()) {
            if (Modifier.isPublic(m.getModifiers())) {
                StringBuilder b = new StringBuilder(m.getName()).append('(');
                for (Class<?> type : m.getParameterTypes()) {
                    b.append(b.charAt(b.length() - 1) == '(' ? "" : ",").append(type.getName());
                }
                got.add(b.append(')').toString());
                String answer = m.getName().equals("chance") ? "long" : "int";
                DUE.holds(m.getName() + " answers " + answer, m.getReturnType().getName().equals(answer) && !Modifier.isStatic(m.getModifiers()));
            }
        }
        DUE.holds("face " + got, got.equals(due));
        DUE.holds("public final", Modifier.isFinal(PoliteHall.class.getModifiers()) && Modifier.isPublic(PoliteHall.class.getModifiers()));
        Constructor<?>[] constructors = PoliteHall.class.getDeclaredConstructors();
        DUE.holds("one constructor", constructors.length == 1 && Modifier.isPublic(constructors[0].getModifiers()) && constructors[0].getParameterCount() == 0);
    }

    private static void members() {
        TreeSet<String> open = new TreeSet<>();
        for (Method m : PoliteHall.class.getDeclaredMethods()) {
            if (Modifier.isPublic(m.getModifiers())) {
                open.add(m.getName());
            }
        }
        for (Field f : PoliteHall.class.getDeclaredFields()) {
            DUE.holds("private " + f, Modifier.isPrivate(f.getModifiers()));
            DUE.holds("static is final " + f, !Modifier.isStatic(f.getModifiers()) || Modifier.isFinal(f.getModifiers()));
        }
        for (Method m : PoliteHall.class.getDeclaredMethods()) {
            boolean hidden = Modifier.isPrivate(m.getModifiers()) && !open.contains(m.getName());
            DUE.holds("public or private, and of its own name " + m, Modifier.isPublic(m.getModifiers()) || hidden);
        }
        Class<?>[] inside = PoliteHall.class.getDeclaredClasses();
        DUE.holds("at most some twelve classes", inside.length <= 12);
        for (Class<?> c : inside) {
            DUE.holds("static " + c, Modifier.isStatic(c.getModifiers()));
            for (Method m : c.getDeclaredMethods()) {
                DUE.holds("no name of the face " + m, !open.contains(m.getName()));
                DUE.holds("at most seven parameters " + m, m.getParameterCount() <= 7);
            }
            DUE.holds("some twenty fields " + c, Arrays.stream(c.getDeclaredFields()).filter(f -> !Modifier.isStatic(f.getModifiers())).count() <= 20);
        }
    }

    private static String source() throws IOException {
        return Files.readString(Path.of("src/main/java/PoliteHall.java"));
    }

    /** The source without comments and texts. */
    private static String bare() throws IOException {
        return source().replaceAll("(?s)/\\*.*?\\*/", "").replaceAll("//[^\n]*", "").replaceAll("\"[^\"\n]*\"", "\"\"");
    }

    private static void words() throws IOException {
        String source = source();
        String bare = bare();
        String[] ruledOut = {"\\bthrows?\\b", "\\btry\\b", "\\bcatch\\b", "\\bsynchronized\\b", "\\bassert\\b", "->", "::", "\\bimport\\b",
            "\\bpackage\\b", "\\bprotected\\b", "\\bhashCode\\b", "\\btoString\\b", "Exact\\b", "\\bstatic\\s*\\{", "\\bObject\\b", "\\bnative\\b",
            "\\bSystem\\.(?!arraycopy)", "\\bThread\\b", "\\bRandom\\b", "\\bvar\\b"};
        for (String word : ruledOut) {
            Matcher m = Pattern.compile(word).matcher(bare);
            DUE.holds("no " + word, !m.find());
        }
        for (char c : source.toCharArray()) {
            if (c > 126) {
                DUE.holds("a sign beyond 126", false);
            }
        }
    }

    private static void library() throws IOException {
        TreeSet<String> own = new TreeSet<>();
        for (Class<?> c : PoliteHall.class.getDeclaredClasses()) {
            own.add(c.getSimpleName());
        }
        TreeSet<String> may = new TreeSet<>(Arrays.asList("Integer.bitCount", "Long.bitCount", "Math.max", "Math.min", "System.arraycopy"));
        Matcher m = Pattern.compile("\\b([A-Z]\\w*)\\.(\\w+)\\(").matcher(bare());
        while (m.find()) {
            DUE.holds("the library has no " + m.group(), own.contains(m.group(1)) || may.contains(m.group(1) + "." + m.group(2)));
        }
    }

    /** A method ends at the first brace that stands as far in as it begins. */
    private static void lengths() throws IOException {
        String[] lines = source().split("\n");
        Pattern head = Pattern.compile("( +)(public|private|static|boolean|int|long|void|String|[A-Z]\\w*)\\b[^=;]*\\) \\{");
        int methods = 0;
        for (int i = 0; i < lines.length; i++) {
            Matcher m = head.matcher(lines[i]);
            if (m.matches()) {
                int end = i;
                while (end < lines.length - 1 && !lines[end].equals(m.group(1) + "}")) {
                    end++;
                }
                methods++;
                DUE.holds("some sixty lines: " + lines[i].trim(), end - i < 60);
            }
        }
        DUE.holds("methods were seen", methods > 100);
    }
}
