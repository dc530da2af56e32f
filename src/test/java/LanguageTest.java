import java.lang.reflect.Constructor;
import java.lang.reflect.Field;
import java.lang.reflect.Method;
import java.lang.reflect.Modifier;
import java.nio.file.Files;
import java.nio.file.Path;
import java.util.Arrays;
import java.util.Set;
import java.util.TreeSet;
import java.util.regex.Pattern;

/** The rules of LANGUAGE.md that can be seen from the outside or by a word. */
public final class LanguageTest {
    private static final String FACE = "int feed(int,int,int,int,int)|int back(int)|int read()|int place()|int load(int,int)|int silk(int,int)"
            + "|int pull(int)|int hook(int,int)|int tells(int,int,int)|int tie(int,int)|boolean move(int,int)|boolean patch(int,boolean)"
            + "|int hours(int)|boolean undo()|int flight(int,int,int,int)|int soon(int,int,int)|int patches(int,int,int)|int near(int)"
            + "|int lifts(int,int)|int fill(int)|int fewest()|int waits(int,int,int)|int then(int,int,int)|int earns(int)|int year(int,int,int)"
            + "|int tell(int,int,int,int,int)|int forget()|int pulls(int,int)|int sure(int)|boolean hold(int)|boolean restore(int)|int count(int)";

    public static void main(String[] args) throws Exception {
        face();
        inside();
        words();
        Due.end("LanguageTest");
    }

    private static String told(Method method) {
        StringBuilder s = new StringBuilder(method.getReturnType().getSimpleName()).append(' ').append(method.getName()).append('(');
        for (Class<?> type : method.getParameterTypes()) {
            s.append(s.charAt(s.length() - 1) == '(' ? "" : ",").append(type.getSimpleName());
        }
        return s.append(')').toString();
    }

    private static void face() {
        Set<String> due = new TreeSet<>(Arrays.asList(FACE.split("\\|")));
        Set<String> seen = new TreeSet<>();
        for (Method method : SilkRise.class.getDeclaredMethods()) {
            if (!Modifier.isPrivate(method.getModifiers())) {
                Due.due("public " + method, Modifier.isPublic(method.getModifiers()), true);
                seen.add(told(method));
            }
        }
        Due.due("the methods " + seen, seen.equals(due), true);
        for (Field field : SilkRise.class.getDeclaredFields()) {
            Due.due("private " + field, Modifier.isPrivate(field.getModifiers()), !field.getName().equals("NONE"));
        }
        Constructor<?>[] constructors = SilkRise.class.getDeclaredConstructors();
        Due.due("constructors", constructors.length, 1);
        Due.due("public constructor", Modifier.isPublic(constructors[0].getModifiers()), true);
        Due.due("final", Modifier.isFinal(SilkRise.class.getModifiers()), true);
    }

    private static void inside() {
        Set<String> names = new TreeSet<>();
        for (Method method : SilkRise.class.getDeclaredMethods()) {
            if (!Modifier.isPrivate(method.getModifiers())) {
                names.add(method.getName());
            }
        }
        Class<?>[] classes = SilkRise.class.getDeclaredClasses();
        Due.due("some twelve classes", classes.length <= 12, true);
        for (Class<?> type : classes) {
            Due.due("static " + type, Modifier.isStatic(type.getModifiers()), true);
            int fields = 0;
            for (Field field : type.getDeclaredFields()) {
                Due.due("final or not static: " + field, !Modifier.isStatic(field.getModifiers()) || Modifier.isFinal(field.getModifiers()), true);
                fields += Modifier.isStatic(field.getModifiers()) ? 0 : 1;
            }
            Due.due("some twenty fields: " + type, fields <= 20, true);
            for (Method method : type.getDeclaredMethods()) {
                Due.due("a name of its own: " + method, names.contains(method.getName()), false);
                Due.due("parameters: " + method, method.getParameterCount() <= 7, true);
            }
        }
    }

    private static void words() throws Exception {
        String source = Files.readString(Path.of("src/main/java/SilkRise.java"));
        String code = source.replaceAll("(?s)/\\*.*?\\*/", "").replaceAll("//[^\n]*", "");
        for (String word : "throw try catch throws synchronized assert import package instanceof float double".split(" ")) {
            Due.due(word, Pattern.compile("\\b" + word + "\\b").matcher(code).find(), false);
        }
        for (String sign : new String[] {"->", "::", "\" +", "+ \"", "Exact(", "System.out", "Integer.valueOf"}) {
            Due.due(sign, code.contains(sign), false);
        }
        Due.due("signs are 1 to 127", source.chars().allMatch(c -> c > 0 && c < 128), true);
        int lines = 0;
        for (String line : code.split("\n")) {
            boolean starts = line.matches("( {4}| {8})[^ /@].*\\) \\{");
            lines = starts ? 0 : lines + 1;
            Due.due("some sixty lines", lines < 60 || !line.matches(" {12,}.*"), true);
        }
    }
}
