import java.io.IOException;
import java.lang.reflect.Constructor;
import java.lang.reflect.Field;
import java.lang.reflect.Method;
import java.lang.reflect.Modifier;
import java.nio.charset.StandardCharsets;
import java.nio.file.Files;
import java.nio.file.Path;
import java.util.ArrayList;
import java.util.Arrays;
import java.util.List;
import java.util.Set;
import java.util.TreeSet;
import java.util.regex.Matcher;
import java.util.regex.Pattern;

/** The face, as DOC.md writes it, and the rules of LANGUAGE.md that a look at the class and its source can tell. */
public final class LanguageTest {
    private static final Due d = new Due("LanguageTest");
    private static final String FACE = "int wall(int,int); int cellIs(int,int); int thing(int,int); "
        + "int thingIs(int,int); int become(int,int); int as(int,int); int carry(int,int); int clock(int); "
        + "int feed(long,int); int text(int); int untell(int); int law(int,int,int,int); int hours(int); "
        + "int shakes(int); int seed(int); int pull(int); int then(int,int); int when(int,int); "
        + "int farthest(int,int); int screws(int,int,int); int lands(int,int); long sources(int,int); "
        + "long rooms(int,int); int soonest(int,int); long shut(int); int fits(int); int voice(int,int,int); "
        + "int body(int); int sheet(int,int,int); int put(int,int,int); int move(int,int,int,int,int); "
        + "int walls(int); int judge(int); int image(); int restore(); int tell(int); int check(); "
        + "int count(int); int told(int)";
    private static final String[] FORBIDDEN = {
        "throw", "try", "catch", "synchronized", "assert", "import", "package", "native", "volatile", "protected",
        "hashCode", "toString", "equals", "Object", "System.nanoTime", "System.currentTimeMillis", "Thread",
        "Random", "while", "instanceof", "enum", "record", "interface", "extends", "implements", "String",
    };

    private static final Pattern METHOD = Pattern.compile(
        "^( {4}| {8})((?:(?:public|private|static|final) )*)[\\w\\[\\]]+ (\\w+)\\([^)]*\\) \\{");

    public static void main(String[] args) throws IOException {
        face();
        inside();
        String source = read("src/main/java/DownByTheHour.java");
        source(source);
        faceOfDocument(source, read("../shared/DOC.md"));
        d.end();
    }

    private static String read(String path) throws IOException {
        return Files.readString(Path.of(path), StandardCharsets.UTF_8);
    }

    /** The lines of the document's face stand in the source, in its order, each heading ahead of its calls. */
    private static void faceOfDocument(String source, String document) {
        List<String> want = new ArrayList<>();
        Matcher heading = Pattern.compile("Ahead of the calls (.*?) the interface says: (---- .*)\\.")
            .matcher(document);
        List<String> headings = new ArrayList<>();
        List<String> firstCalls = new ArrayList<>();
        while (heading.find()) {
            firstCalls.add(heading.group(1).replaceAll("^`(\\w+)`.*", "$1"));
            headings.add("// " + heading.group(2));
        }
        isSo("the document has six headings", headings.size() == 6);
        Matcher line = Pattern.compile("(?m)^    (public (?:int |long )?(\\w+)\\(.*\\));$").matcher(document);
        while (line.find()) {
            int first = firstCalls.indexOf(line.group(2));
            if (first >= 0) {
                want.add(headings.get(first));
            }
            want.add(line.group(1));
        }
        List<String> got = new ArrayList<>();
        Matcher mine = Pattern.compile("(?m)^    (// ---- .*|public .*\\)) ?\\{?$").matcher(source);
        while (mine.find()) {
            got.add(mine.group(1));
        }
        isSo("1: the face line by line, " + got + ", the document's " + want, got.equals(want));
    }

    private static String told(Method method) {
        StringBuilder told = new StringBuilder();
        told.append(method.getReturnType().getName()).append(' ').append(method.getName()).append('(');
        for (Class<?> type : method.getParameterTypes()) {
            told.append(told.charAt(told.length() - 1) == '(' ? "" : ",").append(type.getName());
        }
        return told.append(')').toString();
    }

    private static void isSo(String what, boolean is) {
        d.due(what, is ? 1 : 0, 1);
    }

    private static void face() {
        Set<String> want = new TreeSet<>(Arrays.asList(FACE.split("; ")));
        Set<String> got = new TreeSet<>();
        Set<String> names = new TreeSet<>();
        Class<?> face = DownByTheHour.class;
        for (Method method : face.getDeclaredMethods()) {
            if (!Modifier.isPrivate(method.getModifiers())) {
                got.add(told(method));
                names.add(method.getName());
                isSo(method + " is of the object", !Modifier.isStatic(method.getModifiers()));
            }
        }
        isSo("1: the face is " + got, got.equals(want));
        isSo("1: public and final", face.getModifiers() == (Modifier.PUBLIC | Modifier.FINAL));
        Constructor<?>[] constructors = face.getDeclaredConstructors();
        isSo("1: one constructor", constructors.length == 1 && constructors[0].getParameterCount() == 0);
        isSo("1: that is public", Modifier.isPublic(constructors[0].getModifiers()));
        for (Field field : face.getDeclaredFields()) {
            isSo("1: private " + field, Modifier.isPrivate(field.getModifiers()));
        }
        List<Class<?>> classes = new ArrayList<>(Arrays.asList(face.getDeclaredClasses()));
        classes.add(face);
        for (Class<?> inside : classes) {
            for (Method method : inside.getDeclaredMethods()) {
                isSo("1: no face's name " + method, inside == face && !Modifier.isPrivate(method.getModifiers())
                    || !names.contains(method.getName()));
            }
        }
    }

    private static void inside() {
        Class<?>[] classes = DownByTheHour.class.getDeclaredClasses();
        isSo("11: at most twelve classes", classes.length <= 11);
        for (Class<?> inside : classes) {
            isSo("2: static " + inside, Modifier.isStatic(inside.getModifiers()));
            isSo("2: none inside " + inside, inside.getDeclaredClasses().length == 0);
            int fields = 0;
            for (Field field : inside.getDeclaredFields()) {
                boolean isStatic = Modifier.isStatic(field.getModifiers());
                isSo("5: final " + field, !isStatic || Modifier.isFinal(field.getModifiers()));
                fields += isStatic ? 0 : 1;
            }
            isSo("11: fields of " + inside, fields <= 20);
            for (Method method : inside.getDeclaredMethods()) {
                isSo("11: parameters of " + method, method.getParameterCount() <= 7);
            }
        }
    }

    private static void source(String text) {
        for (int i = 0; i < text.length(); i++) {
            char c = text.charAt(i);
            isSo("4: sign at " + i, c == '\n' || (c >= 32 && c < 127));
        }
        String bare = text.replaceAll("(?s)/\\*.*?\\*/", "").replaceAll("//[^\n]*", "").replaceAll("'.'", "' '");
        for (String word : FORBIDDEN) {
            isSo("6: no " + word, !Pattern.compile("\\b" + Pattern.quote(word) + "\\b").matcher(bare).find());
        }
        isSo("2: no lambda", !bare.contains("->"));
        isSo("2: no method reference", !bare.contains("::"));
        isSo("2: no annotation", !bare.contains("@"));
        isSo("6: no text", !bare.contains("\""));
        Matcher library = Pattern.compile("\\b(Math|Integer|Long|System|Arrays)\\.\\w+").matcher(bare);
        Set<String> used = new TreeSet<>();
        while (library.find()) {
            used.add(library.group());
        }
        used.removeAll(Set.of("Math.max", "Math.min", "Math.floorMod", "Integer.bitCount", "Long.bitCount",
            "System.arraycopy"));
        isSo("4: of the library no " + used, used.isEmpty());
        made(bare);
        lengths(text);
        recursion(bare);
    }

    /** Who calls itself is private and static; else methods call one another. */
    private static void recursion(String bare) {
        Matcher method = null;
        for (String line : bare.split("\n")) {
            Matcher begins = METHOD.matcher(line);
            if (begins.find()) {
                method = begins;
            } else if (method != null && line.equals(method.group(1) + "}")) {
                method = null;
            } else if (method != null && !method.group(2).equals("private static ")) {
                boolean callsItself = Pattern.compile("(?<![.\\w])" + method.group(3) + "\\(").matcher(line).find();
                isSo("8: calls itself, and isn't private and static: " + method.group(3), !callsItself);
            }
        }
    }

    /** What is made is made as an object's fields, once. */
    private static void made(String bare) {
        for (String line : bare.split("\n")) {
            if (line.contains("new ")) {
                isSo("12: made once: " + line.trim(), line.matches(" +(private )?(static )?final .* = new .*"));
            }
        }
    }

    private static void lengths(String text) {
        int length = 0;
        for (String line : text.split("\n")) {
            boolean begins = line.matches(" {4}(    )?\\S[^=;]*\\) \\{");
            boolean ends = line.matches(" {4}(    )?\\}");
            length = begins ? 1 : length == 0 ? 0 : length + 1;
            isSo("11: a method of more than sixty lines at " + line, length <= 60);
            length = ends ? 0 : length;
        }
    }
}
