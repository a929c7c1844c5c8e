import java.lang.reflect.Field;
import java.lang.reflect.Method;
import java.lang.reflect.Modifier;
import java.nio.file.Files;
import java.nio.file.Path;
import java.util.Set;
import java.util.TreeSet;
import java.util.regex.Matcher;
import java.util.regex.Pattern;

/** The face of the class is that of the document, and no method inside has a name of the face. */
public final class FaceTest {
    public static void main(String[] args) throws Exception {
        Set<String> due = facesOfDocument();
        Set<String> got = new TreeSet<>();
        for (Method method : DecisionChain.class.getDeclaredMethods()) {
            if (Modifier.isPublic(method.getModifiers())) {
                got.add(signatureOf(method));
            }
        }
        Check.due("the public methods", due, () -> got);
        Check.due("the number of constructors", 1, () -> DecisionChain.class.getDeclaredConstructors().length);
        Check.due("public and final", true, () -> Modifier.isPublic(DecisionChain.class.getModifiers())
                && Modifier.isFinal(DecisionChain.class.getModifiers()));
        Check.due("NONE", -1, () -> DecisionChain.NONE);
        Check.due("NOTHING", Long.MIN_VALUE, () -> DecisionChain.NOTHING);
        Set<String> names = new TreeSet<>();
        for (String signature : due) {
            names.add(signature.substring(signature.indexOf(' ') + 1, signature.indexOf('(')));
        }
        checkMembers(names);
        Check.finish();
    }

    private static Set<String> facesOfDocument() throws Exception {
        String document = Files.readString(Path.of("../shared/DOC.md"));
        Matcher face = Pattern.compile("\n    public (\\w+) (\\w+)\\(([^)]*)\\)([^;]*);").matcher(document);
        Set<String> all = new TreeSet<>();
        while (face.find()) {
            String types = face.group(3).replaceAll(" \\w+(,|$)", "$1");
            all.add(face.group(1) + " " + face.group(2) + "(" + types + ")" + face.group(4));
        }
        return all;
    }

    private static String signatureOf(Method method) {
        StringBuilder all = new StringBuilder();
        all.append(method.getReturnType().getSimpleName()).append(' ').append(method.getName()).append('(');
        String gap = "";
        for (Class<?> type : method.getParameterTypes()) {
            all.append(gap).append(type.getSimpleName());
            gap = ", ";
        }
        all.append(')');
        gap = " throws ";
        for (Class<?> type : method.getExceptionTypes()) {
            all.append(gap).append(type.getSimpleName());
            gap = ", ";
        }
        return all.toString();
    }

    private static void checkMembers(Set<String> names) {
        for (Method method : DecisionChain.class.getDeclaredMethods()) {
            boolean open = Modifier.isPublic(method.getModifiers());
            Check.due(method.getName() + " is public or private", true,
                    () -> open || Modifier.isPrivate(method.getModifiers()) || method.isSynthetic());
            Check.due(method.getName() + " is private and of the face", false,
                    () -> !open && names.contains(method.getName()));
        }
        for (Field field : DecisionChain.class.getDeclaredFields()) {
            boolean constant = field.getName().equals("NONE") || field.getName().equals("NOTHING");
            Check.due(field.getName() + " is private", !constant, () -> Modifier.isPrivate(field.getModifiers()));
        }
        for (Class<?> inside : DecisionChain.class.getDeclaredClasses()) {
            for (Method method : inside.getDeclaredMethods()) {
                Check.due(inside.getSimpleName() + "." + method.getName() + " is of the face", false,
                        () -> names.contains(method.getName()));
            }
        }
    }
}
