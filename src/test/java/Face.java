import java.io.IOException;
import java.lang.reflect.Constructor;
import java.lang.reflect.Field;
import java.lang.reflect.Method;
import java.lang.reflect.Modifier;
import java.nio.file.Files;
import java.nio.file.Path;
import java.util.Set;
import java.util.TreeSet;
import java.util.regex.Matcher;
import java.util.regex.Pattern;

/** The class has the document's face and no other, and the rules of LANGUAGE.md that can be looked up hold. */
public final class Face {
    private static int wrong;

    private static void must(boolean holds, String what) {
        if (!holds) {
            wrong++;
            System.out.println("not so: " + what);
        }
    }

    private static final String[] METHODS = {
        "int about(int)", "int answers(int,int,int)", "int askings(int,int)", "int back(int)", "int end(int)",
        "int fault(int)", "int feed(int,int,int,int,int)", "int image(int)", "int is(int,int)", "int judge(int,int)",
        "int lasts(int,int,int,int)", "int later(int)", "int leagues(int,int)", "int left(int)",
        "int lies(int,boolean,boolean)", "int may(int,int,boolean,boolean,int)", "int next(int,int)", "int plain(int)",
        "int proof(int,int)", "int rest(int,int)", "int say(int,int,boolean,boolean)", "int sure(int,int)", "int town()",
        "int truth(int,int,int,int,int)", "boolean untell(int)", "int vote(int,int,int)", "int with(int,int,int)",
        "int world(int,int)"};

    public static void main(String[] args) throws IOException {
        Class<?> face = LieOfTwo.class;
        must(Modifier.isPublic(face.getModifiers()) && Modifier.isFinal(face.getModifiers()), "public final");
        Set<String> publics = new TreeSet<>();
        Set<String> names = new TreeSet<>();
        for (Method m : face.getDeclaredMethods()) {
            if (Modifier.isPrivate(m.getModifiers())) {
                continue;
            }
            StringBuilder b = new StringBuilder(m.getReturnType().getName()).append(' ').append(m.getName()).append('(');
            for (Class<?> p : m.getParameterTypes()) {
                b.append(b.charAt(b.length() - 1) == '(' ? "" : ",").append(p.getName());
            }
            publics.add(b.append(')').toString());
            names.add(m.getName());
            must(m.getModifiers() == Modifier.PUBLIC, m + " is public alone");
        }
        must(publics.equals(new TreeSet<>(Set.of(METHODS))), "the methods are " + publics);
        Constructor<?>[] made = face.getDeclaredConstructors();
        must(made.length == 1 && made[0].getParameterCount() == 0 && Modifier.isPublic(made[0].getModifiers()), "constructor");
        for (Field f : face.getDeclaredFields()) {
            must(Modifier.isPrivate(f.getModifiers()) || f.getName().equals("NONE"), f + " is private");
            must(!Modifier.isStatic(f.getModifiers()) || Modifier.isFinal(f.getModifiers()), f + " is final");
        }
        must(LieOfTwo.NONE == -1, "NONE");
        for (Class<?> inside : face.getDeclaredClasses()) {
            must(Modifier.isStatic(inside.getModifiers()), inside + " is static");
            must(!Modifier.isPublic(inside.getModifiers()) && !Modifier.isProtected(inside.getModifiers()), inside + " is ours");
            must(fieldsBesideConstants(inside) <= 22, inside + " has few fields");
            for (Method m : inside.getDeclaredMethods()) {
                must(!names.contains(m.getName()), m + " bears another name");
                must(m.getParameterCount() <= 7, m + " takes few");
            }
        }
        must(face.getDeclaredClasses().length <= 12, "few classes");
        source(Path.of(args[0], "src/main/java/LieOfTwo.java"));
        System.out.println(wrong == 0 ? "the face is as it must be" : wrong + " are not so");
        System.exit(wrong == 0 ? 0 : 1);
    }

    private static int fieldsBesideConstants(Class<?> inside) {
        int count = 0;
        for (Field f : inside.getDeclaredFields()) {
            must(!Modifier.isStatic(f.getModifiers()) || Modifier.isFinal(f.getModifiers()), f + " is final");
            count += Modifier.isStatic(f.getModifiers()) ? 0 : 1;
        }
        return count;
    }

    private static void source(Path path) throws IOException {
        String code = Files.readString(path).replaceAll("(?s)/\\*.*?\\*/", "").replaceAll("//[^\n]*", "");
        String[] banned = {"throw", "try", "catch", "synchronized", "assert", "package", "->", "::", "System.out", "hashCode",
            "Random", "currentTimeMillis", "nanoTime", "Thread"};
        for (String word : banned) {
            String look = Character.isLetter(word.charAt(0)) ? "\\b" + Pattern.quote(word) + "\\b" : Pattern.quote(word);
            Matcher m = Pattern.compile(look).matcher(code);
            must(!m.find(), "no " + word);
        }
    }
}
