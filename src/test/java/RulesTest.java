import java.io.IOException;
import java.lang.reflect.Constructor;
import java.lang.reflect.Field;
import java.lang.reflect.Method;
import java.lang.reflect.Modifier;
import java.nio.file.Files;
import java.nio.file.Path;
import java.util.Arrays;
import java.util.List;
import java.util.Set;
import java.util.TreeSet;
import java.util.regex.Matcher;
import java.util.regex.Pattern;

/** The face of the class, and those rules of LANGUAGE.md that can be seen in its text. Runs in the project's folder. */
public final class RulesTest {
    private static final String[] FACE = {
        "int parish(int)", "int one(int,int)", "int comes(int)", "int line(int,int)", "int told(int)", "int days(int)",
        "long mean(int)", "long known(int,int)", "int feels()", "int fall(int)", "int far(int,int)", "int wide(int)",
        "int stamps(int,int,int)", "int then(int)", "int hears(int)", "long asked(int,int,int,int)",
        "long settles(int,int)", "int circle(int)", "int fire(int)", "int could(int)", "int whatIs(int,int,int)",
        "int whoBegan(int)", "int two(int,int,int)", "long storms(int,int,int,int)", "int forged(int)",
        "int judge(int)", "int years(int,int,int)", "int image()", "int restore()", "int count(int)",
        "int keep(int,int,int,int)", "int row(int,int,int)", "int put(int,int,int)",
        "long element(int,int) throws IllegalArgumentException, IllegalStateException",
        "int copy(int,int,int,int,int)", "int cost(int)", "int toss(int)"
    };
    private static final List<String> LIBRARY = List.of("Arrays.fill", "System.arraycopy", "Integer.bitCount",
        "Math.max", "Math.min");
    private static final List<String> THROWN = List.of("IllegalStateException", "IllegalArgumentException",
        "UnsupportedOperationException");
    private static final String[] FORBIDDEN = {"finally", "synchronized", "assert", "volatile", "native", "Object",
        "->", "::", "\\w+Exact", "hashCode", "toString", "equals", "getMessage",
        "Throwable", "RuntimeException", "NullPointerException", "ArrayIndexOutOfBoundsException",
        "IndexOutOfBoundsException", "ArithmeticException", "ClassCastException", "NegativeArraySizeException",
        "ArrayStoreException", "var", "instanceof", "Random", "Thread"};

    public static void main(String[] args) throws IOException {
        face();
        String text = Files.readString(Path.of("src/main/java/MoreThanSheHas.java"));
        text = text.replaceAll("(?s)/\\*.*?\\*/", " ").replaceAll("//[^\n]*", " ").replaceAll("\"[^\"\n]*\"", "\"\"");
        words(text);
        library(text);
        sizes(text);
        Check.end("RulesTest");
    }

    private static void face() {
        Set<String> found = new TreeSet<>();
        Set<String> names = new TreeSet<>();
        for (Method m : MoreThanSheHas.class.getDeclaredMethods()) {
            if (Modifier.isPublic(m.getModifiers())) {
                String signature = m.toString().replace("public ", "").replace("MoreThanSheHas.", "");
                found.add(signature.replace("java.lang.", "").replace("Exception,I", "Exception, I"));
                names.add(m.getName());
            } else {
                Check.due(m.getName() + " is private", Modifier.isPrivate(m.getModifiers()) ? 1 : 0, 1);
            }
        }
        Check.due("the face is " + found, found.equals(new TreeSet<>(Arrays.asList(FACE))) ? 1 : 0, 1);
        for (Constructor<?> c : MoreThanSheHas.class.getDeclaredConstructors()) {
            Check.due(c + " is public and takes nothing",
                Modifier.isPublic(c.getModifiers()) && c.getParameterCount() == 0 ? 1 : 0, 1);
        }
        fields(MoreThanSheHas.class, true);
        for (Class<?> c : MoreThanSheHas.class.getDeclaredClasses()) {
            int how = c.getModifiers();
            Check.due(c + " is static", Modifier.isStatic(how) && !Modifier.isPublic(how) && !Modifier.isProtected(how) ? 1 : 0, 1);
            fields(c, false);
            for (Method m : c.getDeclaredMethods()) {
                Check.due(c + "." + m.getName() + " bears a name of the face", names.contains(m.getName()) ? 1 : 0, 0);
            }
        }
        for (Method m : MoreThanSheHas.class.getDeclaredMethods()) {
            boolean bears = !Modifier.isPublic(m.getModifiers()) && names.contains(m.getName());
            Check.due(m.getName() + " bears a name of the face", bears ? 1 : 0, 0);
        }
    }

    private static void fields(Class<?> c, boolean outer) {
        int many = 0;
        for (Field f : c.getDeclaredFields()) {
            int how = f.getModifiers();
            Check.due(c + "." + f.getName() + " is private", !outer || Modifier.isPrivate(how) ? 1 : 0, 1);
            Check.due(c + "." + f.getName() + " is no static state", !Modifier.isStatic(how) || Modifier.isFinal(how) ? 1 : 0, 1);
            many += Modifier.isStatic(how) ? 0 : 1;
        }
        Check.due(c + " has some twenty fields at most", many <= 20 ? 1 : 0, 1);
    }

    private static void words(String text) {
        for (String word : FORBIDDEN) {
            String pattern = word.matches("\\w.*") ? "\\b(" + word + ")\\b" : word;
            Check.due("'" + word + "' stands in it", Pattern.compile(pattern).matcher(text).find() ? 1 : 0, 0);
        }
        Matcher imports = Pattern.compile("import ([\\w.]+);").matcher(text);
        while (imports.find()) {
            Check.due("import " + imports.group(1), imports.group(1).equals("java.util.Arrays") ? 1 : 0, 1);
        }
        Check.due("a package line", text.contains("package ") ? 1 : 0, 0);
    }

    private static void library(String text) {
        Matcher calls = Pattern.compile("\\b([A-Z]\\w*)\\.(\\w+)").matcher(text);
        while (calls.find()) {
            Check.due(calls.group() + " is allowed", LIBRARY.contains(calls.group()) ? 1 : 0, 1);
        }
        Matcher named = Pattern.compile("\\b(\\w*Exception)\\b").matcher(text);
        while (named.find()) {
            Check.due(named.group() + " is allowed", THROWN.contains(named.group()) ? 1 : 0, 1);
        }
    }

    private static void sizes(String text) {
        int classes = text.split("\\b(class|interface|enum|record)\\s").length - 1;
        Check.due("classes: " + classes, classes <= 12 ? 1 : 0, 1);
        int length = 0;
        for (String line : text.split("\n")) {
            length = line.matches("(    ){1,2}\\}") ? 0 : length + 1;
            Check.due("a method of more than sixty lines, at " + line, length > 60 ? 1 : 0, 0);
        }
    }
}
