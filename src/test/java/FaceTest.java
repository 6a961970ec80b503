import java.io.IOException;
import java.lang.reflect.Constructor;
import java.lang.reflect.Field;
import java.lang.reflect.Method;
import java.lang.reflect.Modifier;
import java.nio.file.Files;
import java.nio.file.Path;
import java.util.Set;
import java.util.TreeSet;
import java.util.regex.Matcher;
import java.util.regex.Pattern;

/** The public face, and those rules of LANGUAGE.md that can be told from the class and its text. */
final class FaceTest {
    private static final Due DUE = new Due("FaceTest");
    private static final Path SOURCE = Path.of("src/main/java/LostTent.java");

    public static void main(String[] args) throws IOException {
        face();
        nothingElse();
        classesInside();
        words();
        noStateBetweenObjects();
        DUE.end();
    }

    private static void face() {
        DUE.due("NONE", LostTent.NONE, -1);
        DUE.due("UNKNOWN", LostTent.UNKNOWN, -101);
        DUE.due("OUTSIDE", LostTent.OUTSIDE, -102);
        DUE.due("STATE", LostTent.STATE, -103);
        DUE.due("FULL", LostTent.FULL, -104);
        Set<String> want = new TreeSet<>(Set.of("int letter(int)", "int blank()", "int fault()", "int tent()",
                "int thing(int,int)", "int claimer(int,int)", "int as(int,int)", "int wrong(int,int)"));
        want.addAll(Set.of("int give(int,int)", "int back(int)", "int remember(int,int,int)", "int six()",
                "int match(int)", "int see(int,int,boolean)", "int forget()", "int mondays(int,int,int)"));
        want.addAll(Set.of("int image()", "int restore()", "int count(int)", "long digest()"));
        Set<String> got = new TreeSet<>();
        for (Method method : LostTent.class.getDeclaredMethods()) {
            if (Modifier.isPublic(method.getModifiers())) {
                got.add(method.toString().replace("public ", "").replace("LostTent.", ""));
            }
        }
        DUE.due("the public methods " + got, got.equals(want) ? 1 : 0, 1);
        DUE.due("public and final", LostTent.class.getModifiers() & (Modifier.PUBLIC | Modifier.FINAL),
                Modifier.PUBLIC | Modifier.FINAL);
    }

    private static void nothingElse() {
        Set<String> names = new TreeSet<>();
        for (Method method : LostTent.class.getDeclaredMethods()) {
            int modifiers = method.getModifiers();
            boolean open = Modifier.isPublic(modifiers);
            DUE.due(method + " is public or private", open || Modifier.isPrivate(modifiers) ? 1 : 0, 1);
            if (open) names.add(method.getName());
        }
        for (Method method : LostTent.class.getDeclaredMethods()) {
            boolean hides = Modifier.isPrivate(method.getModifiers()) && names.contains(method.getName());
            DUE.due(method + " bears a public name", hides ? 1 : 0, 0);
        }
        Set<String> constants = Set.of("NONE", "UNKNOWN", "OUTSIDE", "STATE", "FULL");
        for (Field field : LostTent.class.getDeclaredFields()) {
            int modifiers = field.getModifiers();
            int want = constants.contains(field.getName()) ? Modifier.PUBLIC : Modifier.PRIVATE;
            DUE.due(field + " is open or private", modifiers & (Modifier.PUBLIC | Modifier.PRIVATE), want);
            if (Modifier.isStatic(modifiers)) DUE.due(field + " is final", modifiers & Modifier.FINAL, Modifier.FINAL);
        }
        Constructor<?>[] constructors = LostTent.class.getDeclaredConstructors();
        DUE.due("how many constructors", constructors.length, 1);
    }

    private static void classesInside() {
        Class<?>[] inside = LostTent.class.getDeclaredClasses();
        DUE.due("how many classes, some twelve at most", Math.max(12, inside.length), 12);
        for (Class<?> inner : inside) {
            int modifiers = inner.getModifiers();
            DUE.due(inner + " is static", modifiers & Modifier.STATIC, Modifier.STATIC);
            DUE.due(inner + " is private or package-visible", modifiers & (Modifier.PUBLIC | Modifier.PROTECTED), 0);
            sizes(inner);
        }
        sizes(LostTent.class);
    }

    private static void sizes(Class<?> one) {
        int fields = 0;
        for (Field field : one.getDeclaredFields()) {
            int modifiers = field.getModifiers();
            if (!Modifier.isStatic(modifiers)) fields++;
            else DUE.due(field + " is final", modifiers & Modifier.FINAL, Modifier.FINAL);
        }
        DUE.due(one + " has some twenty fields at most", Math.max(20, fields), 20);
        for (Method method : one.getDeclaredMethods()) {
            DUE.due(method + " takes seven at most", Math.max(7, method.getParameterCount()), 7);
        }
    }

    /** Words that LANGUAGE.md leaves out; texts and comments do not count. */
    private static void words() throws IOException {
        String text = Files.readString(SOURCE).replaceAll("(?s)/\\*.*?\\*/", "").replaceAll("//[^\n]*", "")
                .replaceAll("\"[^\"\n]*\"", "").replaceAll("'[^'\n]*'", "")
                .replaceAll("import java\\.util\\.(ArrayList|Arrays|Iterator|List);", "")
                .replaceAll("System\\.arraycopy", "").replaceAll("(case|default)\\b[^;{}\n]*->", "");
        Pattern forbidden = Pattern.compile("\\b(throw|throws|try|catch|finally|synchronized|assert|import|package"
                + "|volatile|transient|native|strictfp|System|Thread|Random|Scanner|Runtime|\\w*Exact)\\b|->|::");
        Matcher matcher = forbidden.matcher(text);
        while (matcher.find()) DUE.due("a word that is not for LostTent.java: " + matcher.group(), 1, 0);
        DUE.due("letters above 127", text.chars().filter(c -> c > 127).count(), 0);
    }

    private static void noStateBetweenObjects() {
        LostTent one = Due.pitched("312,402;n301");
        long before = one.digest();
        LostTent other = Due.pitched("000,111,222;c000,w000");
        other.give(0, 0);
        other.six();
        other.image();
        other.see(0, 0, true);
        other.match(0);
        other.mondays(60, 7, 0);
        DUE.due("digest() of one when another is used", one.digest(), before);
        DUE.due("restore() of one when another was kept", one.restore(), Due.STATE);
    }
}
