import java.lang.reflect.Field;
import java.lang.reflect.Member;
import java.lang.reflect.Method;
import java.lang.reflect.Modifier;
import java.nio.file.Files;
import java.nio.file.Path;
import java.util.ArrayList;
import java.util.Arrays;
import java.util.List;
import java.util.Set;
import java.util.TreeSet;

/** The face of the document, and the rules of the language that can be seen from outside. */
public final class FaceTest {
    private static final String[] FACE = {
        "int sign(int)", "boolean end(int)", "int flats()", "int tide()", "int carts()", "int rule()",
        "int place(int,int)", "int road(int,int)", "int cart(int,int)", "int patience(int)",
        "int sheet(int,int,int,int)", "int out(int,int)", "int round(int)", "int chain(int,int)",
        "int load(int,int)", "int storm(int,int,int)", "int pass(int)", "int day()", "int undo()",
        "int level(int)", "int table(int,int)", "int comes(int)", "int ebb()", "int slack()", "int period()",
        "int soonest(int,int)", "int latest(int,int,int)", "int safe(int,int,int)", "int within(int,int)",
        "int cutoff(int)", "int carrier(int,int)", "int inns(int)", "int arrives(int)", "int best(int,int)",
        "int could(int,int)", "int mark(int,int)", "int wash()", "int fits(int)", "int read(int,int)",
        "int lookat(int)", "int years(int,int)", "boolean keep(int)", "boolean again(int)", "int count(int)",
        "int row(int)"};

    private static final String[] NOT_IN_THE_LANGUAGE = {
        "->", "::", "static {", "finally", "synchronized", "assert ", "getMessage", "Exact(", "catch",
        "instanceof", "hashCode", "toString", "System.out", "Math.random", "String."};

    public static void main(String[] args) throws Exception {
        Class<?> face = RoadsWithTides.class;
        Check.due("NONE", RoadsWithTides.NONE, -1);
        Check.due("public and final", Modifier.isPublic(face.getModifiers()) && Modifier.isFinal(face.getModifiers()), true);
        Set<String> got = new TreeSet<>();
        Set<String> names = new TreeSet<>();
        for (Method method : face.getDeclaredMethods()) {
            if (Modifier.isPublic(method.getModifiers())) {
                got.add(told(method));
                names.add(method.getName());
            }
        }
        Check.same("methods", got.toString(), new TreeSet<>(Arrays.asList(FACE)).toString());
        List<Member> members = new ArrayList<>(Arrays.asList(face.getDeclaredMethods()));
        members.addAll(Arrays.asList(face.getDeclaredFields()));
        for (Member member : members) {
            boolean ofFace = names.contains(member.getName()) && Modifier.isPublic(member.getModifiers())
                    || member.getName().equals("NONE");
            Check.due(member.getName() + " is private or of the face",
                    ofFace || Modifier.isPrivate(member.getModifiers()), true);
        }
        Check.due("constructors", face.getDeclaredConstructors().length, 1);
        for (Class<?> inside : face.getDeclaredClasses()) {
            Check.due(inside.getName() + " is static", Modifier.isStatic(inside.getModifiers()), true);
            for (Method method : inside.getDeclaredMethods()) {
                Check.due(inside.getName() + "." + method.getName() + " bears no name of the face",
                        names.contains(method.getName()), false);
                Check.due(method.getName() + " has at most seven parameters", method.getParameterCount() <= 7, true);
            }
        }
        fewFields(face);
        for (Class<?> inside : face.getDeclaredClasses()) {
            fewFields(inside);
        }
        Check.due("at most twelve classes", face.getDeclaredClasses().length < 12, true);
        readSource();
        Check.finish();
    }

    private static void fewFields(Class<?> one) {
        int many = 0;
        for (Field field : one.getDeclaredFields()) {
            boolean isConstant = Modifier.isStatic(field.getModifiers());
            many += isConstant ? 0 : 1;
            Check.due(one.getName() + "." + field.getName() + " is no static state",
                    isConstant && !Modifier.isFinal(field.getModifiers()), false);
        }
        Check.due(one.getName() + " has at most twenty fields", many <= 20, true);
    }

    /** From a line that opens a method to the one that closes it, by how far these are put in. */
    private static void shortMethods(String[] lines) {
        int methods = 0;
        for (int i = 0; i < lines.length; i++) {
            int margin = lines[i].startsWith("        ") ? 8 : 4;
            boolean opens = lines[i].matches(" {" + margin + "}[A-Za-z].*\\) (throws \\w+ )?\\{");
            if (!opens) {
                continue;
            }
            int end = i;
            while (end < lines.length && !lines[end].equals(" ".repeat(margin) + "}")) {
                end++;
            }
            methods++;
            Check.due("lines of the method at line " + (i + 1) + " are at most 60", end - i < 60, true);
        }
        Check.due("methods were looked at", methods > 100, true);
    }

    private static String told(Method method) {
        StringBuilder told = new StringBuilder(method.getReturnType().getName());
        told.append(' ').append(method.getName()).append('(');
        for (int i = 0; i < method.getParameterCount(); i++) {
            told.append(i == 0 ? "" : ",").append(method.getParameterTypes()[i].getName());
        }
        return told.append(')').toString();
    }

    private static void readSource() throws Exception {
        String source = Files.readString(Path.of("src/main/java/RoadsWithTides.java"));
        for (int i = 0; i < source.length(); i++) {
            Check.due("a sign of the source beyond 126 at " + i, source.charAt(i) > 126, false);
        }
        for (String word : NOT_IN_THE_LANGUAGE) {
            Check.due("the source has " + word, source.contains(word), false);
        }
        shortMethods(source.split("\n"));
        for (String line : source.split("\n")) {
            if (line.startsWith("import ")) {
                Check.due(line, line.equals("import java.util.Arrays;")
                        || line.equals("import java.util.NoSuchElementException;"), true);
            }
        }
    }
}
