import java.io.IOException;
import java.lang.reflect.Constructor;
import java.lang.reflect.Field;
import java.lang.reflect.Method;
import java.lang.reflect.Modifier;
import java.nio.file.Files;
import java.nio.file.Path;
import java.util.Arrays;
import java.util.TreeSet;
import java.util.regex.Matcher;
import java.util.regex.Pattern;

/** The public face as the document has it, and what of LANGUAGE.md can be looked up in the file. */
public final class FaceTest {
    private static int wrong = 0;

    private static final String[] FACE = {
        "int feed(int,int,int,int,int)", "int carnival(int) IllegalArgumentException", "int fault(int)",
        "int guild(int,int) NoSuchElementException IllegalArgumentException",
        "boolean may(int,int) NoSuchElementException IllegalArgumentException", "int tomorrow(int) NoSuchElementException",
        "int step(int,int) NoSuchElementException IllegalArgumentException", "int mock(int,int)",
        "int spare(int) NoSuchElementException", "int rank(int,int) NoSuchElementException IllegalArgumentException",
        "int nights(int) IllegalArgumentException", "int undo(int) IllegalArgumentException",
        "int judge(int,int) NoSuchElementException IllegalStateException IllegalArgumentException",
        "int perform(int) NoSuchElementException IllegalStateException",
        "int week(int,int) IllegalArgumentException IllegalStateException", "int ringed()", "int rings(boolean)",
        "int cakes()", "int chains()", "int walks(int) IllegalArgumentException", "int place(int) NoSuchElementException",
        "int length()", "int persuaded(int) IllegalArgumentException", "int peace(int) IllegalArgumentException",
        "int goat()", "int below(int) NoSuchElementException", "int cakesOf(int) NoSuchElementException",
        "int chainOf(int) NoSuchElementException", "int longest()", "int freeFor(int) NoSuchElementException",
        "int at(int,int) NoSuchElementException IllegalArgumentException", "int arrives(int) NoSuchElementException",
        "int meets(int,int) NoSuchElementException IllegalArgumentException", "int bows()",
        "int melted(int,int) IllegalArgumentException", "int noise()", "int quietest(int,int) IllegalArgumentException",
        "int comesBack(int) IllegalArgumentException",
        "int mocksIn(int,int) NoSuchElementException IllegalArgumentException",
        "int seen(int) NoSuchElementException IllegalStateException IllegalArgumentException",
        "int ever(int,int) NoSuchElementException IllegalArgumentException", "int fewest(int,int) IllegalArgumentException",
        "void tray(int,int,int) NoSuchElementException IllegalArgumentException",
        "long write(int,int,long) NoSuchElementException IllegalStateException IndexOutOfBoundsException",
        "int copy(int) NoSuchElementException IllegalStateException", "void image(int) NoSuchElementException",
        "void restore(int) NoSuchElementException IllegalStateException", "int count(int)"};

    public static void main(String[] args) throws IOException {
        lookAtMembers();
        lookAtFile(Files.readString(Path.of("src/main/java/InsultRow.java")));
        if (wrong != 0) {
            System.exit(1);
        }
    }

    private static void due(String what, boolean holds) {
        if (!holds) {
            wrong++;
            System.out.println("FaceTest: " + what);
        }
    }

    private static void lookAtMembers() {
        Class<?> face = InsultRow.class;
        due("public and final", Modifier.isPublic(face.getModifiers()) && Modifier.isFinal(face.getModifiers()));
        TreeSet<String> found = new TreeSet<>();
        TreeSet<String> publicNames = new TreeSet<>();
        TreeSet<String> otherNames = new TreeSet<>();
        for (Method method : face.getDeclaredMethods()) {
            boolean open = Modifier.isPublic(method.getModifiers());
            due("public or private: " + method, open || Modifier.isPrivate(method.getModifiers()));
            (open ? publicNames : otherNames).add(method.getName());
            if (open) {
                due("of an object: " + method, !Modifier.isStatic(method.getModifiers()));
                found.add(told(method));
            }
        }
        due("the methods of the face, found " + found, found.equals(new TreeSet<>(Arrays.asList(FACE))));
        otherNames.retainAll(publicNames);
        due("private methods with public names: " + otherNames, otherNames.isEmpty());
        for (Field field : face.getDeclaredFields()) {
            boolean open = field.getName().equals("NONE");
            due("field " + field, open ? Modifier.isPublic(field.getModifiers()) : Modifier.isPrivate(field.getModifiers()));
            due("static and not final: " + field,
                    !Modifier.isStatic(field.getModifiers()) || Modifier.isFinal(field.getModifiers()));
        }
        Constructor<?>[] made = face.getDeclaredConstructors();
        due("one constructor", made.length == 1 && Modifier.isPublic(made[0].getModifiers())
                && made[0].getParameterCount() == 0);
        due("at most twelve classes", face.getDeclaredClasses().length < 12);
        for (Class<?> inside : face.getDeclaredClasses()) {
            due("static and private: " + inside, Modifier.isStatic(inside.getModifiers())
                    && Modifier.isPrivate(inside.getModifiers()));
        }
    }

    private static String told(Method method) {
        StringBuilder told = new StringBuilder(method.getReturnType() + " " + method.getName() + "(");
        for (Class<?> type : method.getParameterTypes()) {
            told.append(told.charAt(told.length() - 1) == '(' ? "" : ",").append(type);
        }
        told.append(')');
        for (Class<?> thrown : method.getExceptionTypes()) {
            told.append(' ').append(thrown.getSimpleName());
        }
        return told.toString();
    }

    private static void lookAtFile(String text) {
        String code = text.replaceAll("(?s)/\\*.*?\\*/", "").replaceAll("//[^\n]*", "");
        String[] ruledOut = {"->", "::", "\\bfinally\\b", "\\bsynchronized\\b", "\\bassert\\b", "\\bcatch\\b", "Exact\\b",
            "\\bstatic\\s*\\{", "\\bpackage\\b", "\\bSystem\\.(?!arraycopy)", "\\bequals\\b", "\\bhashCode\\b", "\\btoString\\b",
            "\\bString\\.", "\\bdouble\\b", "\\bfloat\\b", "\"\\s*\\+", "\\+\\s*\"", "\\bwhile \\(true\\)", "\\bfor \\(;;\\)"};
        for (String pattern : ruledOut) {
            due("ruled out: " + pattern, !Pattern.compile(pattern).matcher(code).find());
        }
        Matcher imports = Pattern.compile("import ([^;]*);").matcher(code);
        while (imports.find()) {
            due("import " + imports.group(1), imports.group(1).equals("java.util.Arrays")
                    || imports.group(1).equals("java.util.NoSuchElementException"));
        }
        for (int i = 0; i < text.length(); i++) {
            due("a sign above 126 at " + i, text.charAt(i) <= 126);
        }
    }
}
