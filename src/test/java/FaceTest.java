import java.lang.reflect.Constructor;
import java.lang.reflect.Field;
import java.lang.reflect.Method;
import java.lang.reflect.Modifier;
import java.nio.file.Files;
import java.nio.file.Path;
import java.util.Set;
import java.util.TreeSet;
import java.util.regex.Matcher;
import java.util.regex.Pattern;

/** The public face: what the document's block says, and nothing else that is not private. */
public final class FaceTest {
    private static final Check check = new Check("FaceTest");

    public static void main(String[] args) throws Exception {
        Set<String> due = dueMembers();
        Set<String> there = membersThere();
        check.due("members of the document", due.size(), 47);
        for (String member : due) {
            check.due("there is " + member, there.contains(member), true);
        }
        for (String member : there) {
            check.due("the document has " + member, due.contains(member), true);
        }
        int modifiers = CoinsLaid.class.getModifiers();
        check.due("public final", Modifier.isPublic(modifiers) && Modifier.isFinal(modifiers), true);
        check.due("of no other class", CoinsLaid.class.getSuperclass() == Object.class, true);
        check.due("NONE", CoinsLaid.NONE, -1);
        check.end();
    }

    private static Set<String> dueMembers() throws Exception {
        String document = Files.readString(Path.of("../shared/DOC.md"));
        Matcher block = Pattern.compile("```java\n(.*?)```", Pattern.DOTALL).matcher(document);
        Set<String> members = new TreeSet<>();
        if (!block.find()) {
            return members;
        }
        Matcher line = Pattern.compile("^    public (.*?);$", Pattern.MULTILINE).matcher(block.group(1));
        while (line.find()) {
            String member = line.group(1).replaceAll(" (throws .*|= .*)$", "");
            // the names of parameters are no part of the face
            member = member.replaceAll("(int|boolean|long) \\w+(?=[,)])", "$1");
            members.add(member);
        }
        return members;
    }

    private static Set<String> membersThere() {
        Set<String> members = new TreeSet<>();
        for (Constructor<?> c : CoinsLaid.class.getDeclaredConstructors()) {
            addUnlessPrivate(members, c.getModifiers(), c.isSynthetic(), "CoinsLaid(" + names(c.getParameterTypes()) + ")");
        }
        for (Method m : CoinsLaid.class.getDeclaredMethods()) {
            String name = m.getReturnType().getSimpleName() + " " + m.getName() + "(" + names(m.getParameterTypes()) + ")";
            String statics = Modifier.isStatic(m.getModifiers()) ? "static " : "";
            addUnlessPrivate(members, m.getModifiers(), m.isSynthetic(), statics + name);
        }
        for (Field f : CoinsLaid.class.getDeclaredFields()) {
            String kind = (Modifier.isStatic(f.getModifiers()) ? "static " : "")
                    + (Modifier.isFinal(f.getModifiers()) ? "final " : "");
            addUnlessPrivate(members, f.getModifiers(), f.isSynthetic(), kind + f.getType().getSimpleName() + " " + f.getName());
        }
        return members;
    }

    private static void addUnlessPrivate(Set<String> members, int modifiers, boolean synthetic, String member) {
        if (!Modifier.isPrivate(modifiers) && !synthetic) {
            members.add((Modifier.isPublic(modifiers) ? "" : "not public: ") + member);
        }
    }

    private static String names(Class<?>[] types) {
        StringBuilder names = new StringBuilder();
        for (Class<?> type : types) {
            names.append(names.length() > 0 ? ", " : "").append(type.getSimpleName());
        }
        return names.toString();
    }
}
