import java.lang.reflect.Constructor;
import java.lang.reflect.Field;
import java.lang.reflect.Method;
import java.lang.reflect.Modifier;
import java.nio.file.Files;
import java.nio.file.Path;
import java.util.Set;
import java.util.TreeSet;
import java.util.regex.Matcher;
import java.util.regex.Pattern;

/** The class shows the document's face and nothing else, and keeps to what of LANGUAGE.md a text search can see. */
public final class FaceTest {
    private static final Set<String> METHODS = Set.of(
        "feed 1", "capital 0", "fault 0", "told 1", "person 2", "row 2", "coin 1", "debt 2", "hour 1", "drift 1",
        "give 3", "change 3", "firstShort 1", "richest 2", "life 3", "shift 2", "coins 2", "strike 1", "isFalse 5",
        "prices 4", "robbed 3", "run 2", "write 2", "tear 0", "judge 0", "seed 1", "keep 1", "goBack 1");

    public static void main(String[] args) throws Exception {
        lookAtMethods();
        lookAtFields();
        lookAtConstructors();
        lookAtNames();
        lookAtSource();
        lookAtWhatTheInterfaceSays();
        Check.end();
    }

    private static void lookAtMethods() {
        Set<String> shown = new TreeSet<>();
        for (Method m : SleepMint.class.getDeclaredMethods()) {
            if (m.isSynthetic() || Modifier.isPrivate(m.getModifiers())) continue;
            shown.add(m.getName() + " " + m.getParameterCount());
            Check.due(m + " is public", Modifier.isPublic(m.getModifiers()) ? 1 : 0, 1);
            Check.due(m + " answers an int", m.getReturnType() == int.class ? 1 : 0, 1);
        }
        Check.due("methods " + shown, shown.equals(METHODS) ? 1 : 0, 1);
        Check.due("the class is public and final", SleepMint.class.getModifiers(), Modifier.PUBLIC | Modifier.FINAL);
    }

    private static void lookAtFields() {
        Set<String> shown = new TreeSet<>();
        for (Field f : SleepMint.class.getDeclaredFields()) {
            if (!Modifier.isPrivate(f.getModifiers())) shown.add(f.getName());
        }
        Check.due("constants " + shown, shown.equals(Set.of("NONE", "UNKNOWN", "OUTSIDE", "NOT", "FULL")) ? 1 : 0, 1);
        Check.due("NONE", SleepMint.NONE, -1);
        Check.due("UNKNOWN", SleepMint.UNKNOWN, -1000000001);
        Check.due("OUTSIDE", SleepMint.OUTSIDE, -1000000002);
        Check.due("NOT", SleepMint.NOT, -1000000003);
        Check.due("FULL", SleepMint.FULL, -1000000004);
    }

    private static void lookAtConstructors() {
        Constructor<?>[] all = SleepMint.class.getDeclaredConstructors();
        Check.due("constructors", all.length, 1);
        Check.due("its parameters", all[0].getParameterCount(), 0);
        Check.due("it is public", all[0].getModifiers(), Modifier.PUBLIC);
    }

    /** Rule 1: no private method bears the name of a public one; rule 11: seven parameters, twenty fields. */
    private static void lookAtNames() {
        Set<String> faceNames = new TreeSet<>();
        for (String m : METHODS) faceNames.add(m.substring(0, m.indexOf(' ')));
        lookAtClass(SleepMint.class, faceNames);
        Class<?>[] inside = SleepMint.class.getDeclaredClasses();
        Check.due("at most twelve classes", inside.length < 12 ? 1 : 0, 1);
        for (Class<?> c : inside) {
            Check.due(c + " is static", Modifier.isStatic(c.getModifiers()) ? 1 : 0, 1);
            lookAtClass(c, faceNames);
        }
    }

    private static void lookAtClass(Class<?> c, Set<String> faceNames) {
        for (Method m : c.getDeclaredMethods()) {
            boolean isFace = c == SleepMint.class && Modifier.isPublic(m.getModifiers());
            if (!isFace) Check.due(m + " bears a public name", faceNames.contains(m.getName()) ? 1 : 0, 0);
            Check.due(m + " has at most seven parameters", m.getParameterCount() <= 7 ? 1 : 0, 1);
        }
        int fields = 0;
        for (Field f : c.getDeclaredFields()) {
            boolean isStatic = Modifier.isStatic(f.getModifiers());
            if (!isStatic) fields++;
            if (isStatic) Check.due(f + " is final", Modifier.isFinal(f.getModifiers()) ? 1 : 0, 1);
        }
        Check.due(c + " has at most twenty fields", fields <= 20 ? 1 : 0, 1);
    }

    private static void lookAtSource() throws Exception {
        String source = Files.readString(Path.of("src/main/java/SleepMint.java"));
        String code = source.replaceAll("(?s)/\\*.*?\\*/", "").replaceAll("//[^\n]*", "");
        String[] ruledOut = {"\\bthrow\\b", "\\btry\\b", "\\bcatch\\b", "\\bsynchronized\\b", "\\bassert\\b", "->", "::",
            "Exact\\b", "\\bSystem\\.(?!arraycopy)", "\\bimport (?!java\\.util\\.Arrays;)", "\\bObject\\b", "\\bpackage\\b"};
        for (String word : ruledOut) {
            Matcher m = Pattern.compile(word).matcher(code);
            Check.due("the source has " + word, m.find() ? 1 : 0, 0);
        }
        for (int i = 0; i < source.length(); i++) {
            if (source.charAt(i) > 126) Check.due("sign " + i + " of the source", source.charAt(i), 126);
        }
    }

    /** The document's calls in its order, and what it says that the interface says ahead of them. */
    private static void lookAtWhatTheInterfaceSays() throws Exception {
        String[] said = {"// ---- the capital", "feed", "capital", "fault", "told", "person", "row", "coin", "debt",
            "// ---- what is done", "hour", "drift", "give", "change",
            "// ---- tried", "firstShort", "richest", "life", "shift", "coins", "strike", "isFalse", "prices", "robbed", "run",
            "// ---- books, images", "write", "tear", "judge", "seed", "keep", "goBack"};
        String source = Files.readString(Path.of("src/main/java/SleepMint.java"));
        int before = source.indexOf("public SleepMint()");
        for (String words : said) {
            String wanted = words.startsWith("//") ? words + "\n" : "public int " + words + "(";
            int at = source.indexOf(wanted);
            Check.due("'" + wanted.trim() + "' stands behind what comes ahead of it", at > before ? 1 : 0, 1);
            Check.due("'" + wanted.trim() + "' stands once", source.indexOf(wanted, at + 1), -1);
            before = at;
        }
    }
}
