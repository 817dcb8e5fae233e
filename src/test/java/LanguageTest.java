import java.lang.reflect.Constructor;
import java.lang.reflect.Field;
import java.lang.reflect.Method;
import java.lang.reflect.Modifier;
import java.nio.file.Files;
import java.nio.file.Path;
import java.util.ArrayList;
import java.util.List;
import java.util.Set;
import java.util.TreeSet;
import java.util.regex.Matcher;
import java.util.regex.Pattern;

/** The rules of LANGUAGE.md that can be seen from the source and from the face. */
public final class LanguageTest {
    private static final String[] HEADINGS = {"write boards", "odds chances", "just rests", "evening evenings"};
    private static final Set<String> FACE = Set.of("int write(int,long)", "int wipe()", "int fault()", "int lay()",
        "int giver(int,int)", "int show(int)", "long odds(int)", "long mean(int,int)", "long wrong(int)", "int row(int,int)",
        "int judge()", "int made(int)", "long just(int)", "long fails()", "long bestBar(int)", "int bestDay()", "int extra(int)",
        "int bestShow()", "long rich(int,int)", "int richDay(int)", "long two(int)", "int evening(int,int,int)",
        "int whole(int,int)", "int keep()", "int back()", "int count(int)");

    public static void main(String[] args) throws Exception {
        face();
        faceAsWritten();
        String source = Files.readString(Path.of("src/main/java/EnoughGive.java"));
        String code = source.replaceAll("(?s)/\\*.*?\\*/", " ").replaceAll("//[^\n]*", " ");
        for (String word : new String[] {"throw", "throws", "try", "catch", "synchronized", "assert", "instanceof", "package", "float", "double"}) {
            Due.holds("no word " + word, !Pattern.compile("\\b" + word + "\\b").matcher(code).find());
        }
        Due.holds("no lambda, no method reference", !code.contains("->") && !code.contains("::"));
        for (int i = 0; i < source.length(); i++) {
            if (source.charAt(i) > 126) Due.holds("plain signs alone, at " + i, false);
        }
        library(code);
        methods(code);
        Due.end("language");
    }

    /** The document's face, line by line, and the headings that the interface says ahead of the calls. */
    private static void faceAsWritten() throws Exception {
        String document = Files.readString(Path.of("../shared/DOC.md"));
        int from = document.indexOf("```java");
        List<String> want = new ArrayList<>();
        for (String line : document.substring(from, document.indexOf("```", from + 3)).split("\n")) {
            if (!line.startsWith("    public ")) continue;
            String member = line.trim().replaceFirst(";$", "");
            for (String heading : HEADINGS) {
                if (member.matches("public [a-z]+ " + heading.split(" ")[0] + "\\(.*")) want.add("// ---- " + heading.split(" ")[1]);
            }
            want.add(member);
        }
        List<String> found = new ArrayList<>();
        for (String line : Files.readString(Path.of("src/main/java/EnoughGive.java")).split("\n")) {
            boolean heading = line.startsWith("    // ---- ") && !line.endsWith("the object's own");
            if (heading || line.startsWith("    public ")) found.add(line.trim().replaceFirst("( \\{|;)$", ""));
        }
        Due.holds("the face as the document writes it:\n" + found + "\n" + want, found.equals(want));
        Due.is("lines of the face", found.size(), 1 + 1 + 26 + 4);
    }

    private static void face() {
        Set<String> found = new TreeSet<>();
        for (Method m : EnoughGive.class.getDeclaredMethods()) {
            if (m.isSynthetic()) continue;
            if (Modifier.isPrivate(m.getModifiers())) {
                Due.holds("private " + m.getName() + " bears no public name", FACE.stream().noneMatch(f -> f.contains(" " + m.getName() + "(")));
                continue;
            }
            Due.holds(m + " is public", Modifier.isPublic(m.getModifiers()) && !Modifier.isStatic(m.getModifiers()));
            StringBuilder s = new StringBuilder(m.getReturnType() + " " + m.getName() + "(");
            for (int k = 0; k < m.getParameterCount(); k++) s.append(k > 0 ? "," : "").append(m.getParameterTypes()[k]);
            found.add(s.append(")").toString());
        }
        Due.holds("the methods of the face and no others: " + found, found.equals(FACE));
        Constructor<?>[] made = EnoughGive.class.getDeclaredConstructors();
        Due.holds("one public constructor without arguments", made.length == 1 && made[0].getParameterCount() == 0
            && Modifier.isPublic(made[0].getModifiers()));
        Due.holds("public and final", Modifier.isPublic(EnoughGive.class.getModifiers()) && Modifier.isFinal(EnoughGive.class.getModifiers()));
        Due.is("BAD", EnoughGive.BAD, -1);
        Due.is("NO", EnoughGive.NO, -2);
        Due.is("FULL", EnoughGive.FULL, -3);
        Due.is("NONE", EnoughGive.NONE, -4);
        for (Field f : EnoughGive.class.getDeclaredFields()) {
            boolean constant = Set.of("BAD", "NO", "FULL", "NONE").contains(f.getName());
            Due.holds(f + " is public if the face has it, else private", constant ? Modifier.isPublic(f.getModifiers()) : Modifier.isPrivate(f.getModifiers()));
        }
        Class<?>[] inside = EnoughGive.class.getDeclaredClasses();
        Due.holds("some twelve classes", inside.length <= 12);
        for (Class<?> c : inside) {
            Due.holds(c + " is static, and not public", Modifier.isStatic(c.getModifiers()) && !Modifier.isPublic(c.getModifiers()));
            for (Method m : c.getDeclaredMethods()) {
                Due.holds(m + " bears no public name", FACE.stream().noneMatch(f -> f.contains(" " + m.getName() + "(")));
            }
            fields(c);
        }
        fields(EnoughGive.class);
    }

    private static void fields(Class<?> c) {
        int own = 0;
        for (Field f : c.getDeclaredFields()) {
            if (!Modifier.isStatic(f.getModifiers())) own++;
            Due.holds(f + ": static fields are final", !Modifier.isStatic(f.getModifiers()) || Modifier.isFinal(f.getModifiers()));
        }
        Due.holds(c + " has some twenty fields at most: " + own, own <= 20);
    }

    /** Of the library no more than rows are filled and copied by, and Math's least and greatest; all is made with the object. */
    private static void library(String code) {
        Due.holds("no texts", !code.contains("\"") && !code.contains("String"));
        Matcher imports = Pattern.compile("\\bimport ([^;]+);").matcher(code);
        while (imports.find()) Due.is("import " + imports.group(1), imports.group(1).equals("java.util.Arrays") ? 1 : 0, 1);
        Set<String> allowed = Set.of("Arrays.fill", "System.arraycopy", "Math.min", "Math.max");
        Matcher calls = Pattern.compile("\\b[A-Z][a-z]+\\.[a-z]\\w*(?=\\()").matcher(code);
        while (calls.find()) Due.holds("of the library: " + calls.group(), allowed.contains(calls.group()));
        for (String line : code.split("\n")) {
            boolean makes = Pattern.compile("\\bnew \\w").matcher(line).find();
            Due.holds("made with the object: " + line, !makes || line.matches(" {4,8}(private |final |private final )\\w+(\\[\\])? \\w+ = new .*;"));
        }
    }

    private static void methods(String code) {
        Matcher m = Pattern.compile("\n    (?:    )?(?:public |private |static )*[a-zA-Z\\[\\]]+ [a-zA-Z]+\\(([^)]*)\\) \\{\n").matcher(code);
        while (m.find()) {
            int depth = 1;
            int at = m.end();
            while (at < code.length() && depth > 0) {
                char c = code.charAt(at++);
                if (c == '{') depth++;
                if (c == '}') depth--;
            }
            long lines = code.substring(m.end(), at).chars().filter(c -> c == '\n').count();
            Due.holds("short: " + m.group().trim(), lines <= 60);
            Due.holds("seven parameters at most: " + m.group().trim(), m.group(1).split(",").length <= 7);
        }
    }
}
