import java.io.IOException;
import java.lang.reflect.Field;
import java.lang.reflect.Member;
import java.lang.reflect.Method;
import java.lang.reflect.Modifier;
import java.nio.file.Files;
import java.nio.file.Path;
import java.util.ArrayList;
import java.util.Arrays;
import java.util.Collections;
import java.util.List;
import java.util.regex.Matcher;
import java.util.regex.Pattern;
import java.util.stream.Stream;

/** The public face, and those rules of LANGUAGE.md that can be read off the class and its file. */
public final class FaceTest {
    private static final Due due = new Due("FaceTest");
    private static final String[] FACE = {
        "routine(int)", "frame(int,int)", "turns(int,int)", "call(int,int,boolean,boolean)",
        "cut(int,int,boolean,boolean)", "take(int,int)", "flow(int,int)", "goals(int)", "about(int,int)",
        "depth(int)", "way(int,int)", "endless(int)", "interrupt(int,int,int)", "task(int,int,int)",
        "total(int,int)", "apart(int,int,boolean)", "shared()", "group(int)", "saves(int,int)", "best(int)",
        "run(int)", "enter(int)", "over(int)", "leave()", "ran(int)", "sheet(int,int,int)", "lay(int,int,int)",
        "scan(int,int,int,int)", "count(int)",
    };
    private static final String[] FORBIDDEN = {
        "throw", "throws", "try", "catch", "finally", "synchronized", "assert", "import", "package", "protected",
        "volatile", "native", "System", "Object", "Exact", "random", "Thread", "var",
    };
    private static final List<String> LISTED = List.of(
            "Integer.compare(", "Integer.bitCount(", "Integer.max(", "Integer.min(", "Math.max(", "Math.min(",
            "Math.abs(", "Math.floorDiv(", "Math.floorMod(", "Long.compare(", "Long.bitCount(", "Long.max(",
            "Long.min(");

    public static void main(String[] args) throws IOException {
        constants();
        methods();
        hiddenMembers();
        String code = withoutComments(Files.readString(Path.of("src/main/java/StackDepths.java")));
        words(code);
        library(code);
        lengths(code);
        due.end();
    }

    private static void constants() {
        due.is("BAD", StackDepths.BAD, -1);
        due.is("STATE", StackDepths.STATE, -2);
        due.is("FULL", StackDepths.FULL, -3);
        due.is("NONE", StackDepths.NONE, -4);
        due.is("ENDLESS", StackDepths.ENDLESS, -5);
        int flags = Modifier.PUBLIC | Modifier.STATIC | Modifier.FINAL;
        long open = Stream.of(StackDepths.class.getFields()).filter(f -> f.getModifiers() == flags).count();
        due.is("public constants", (int) open, 5);
    }

    private static void methods() {
        List<String> face = new ArrayList<>();
        for (Method method : StackDepths.class.getDeclaredMethods()) {
            if (!Modifier.isPublic(method.getModifiers())) continue;
            List<String> types = new ArrayList<>();
            for (Class<?> type : method.getParameterTypes()) types.add(type.getName());
            face.add(method.getName() + "(" + String.join(",", types) + ")");
            due.holds(method + " answers an int", method.getReturnType() == int.class);
        }
        List<String> wanted = new ArrayList<>(Arrays.asList(FACE));
        Collections.sort(face);
        Collections.sort(wanted);
        due.holds("the methods are the document's: " + face, face.equals(wanted));
        due.holds("final", Modifier.isFinal(StackDepths.class.getModifiers()));
        due.is("one constructor", StackDepths.class.getDeclaredConstructors().length, 1);
    }

    private static void hiddenMembers() {
        List<Member> members = new ArrayList<>(Arrays.asList(StackDepths.class.getDeclaredFields()));
        members.addAll(Arrays.asList(StackDepths.class.getDeclaredMethods()));
        for (Member member : members) {
            due.holds(member + " is public or private",
                    (member.getModifiers() & (Modifier.PUBLIC | Modifier.PRIVATE)) != 0);
        }
        Class<?>[] inside = StackDepths.class.getDeclaredClasses();
        due.holds("at most some twelve classes", inside.length <= 12);
        for (Class<?> type : inside) {
            due.holds(type + " is static", Modifier.isStatic(type.getModifiers()));
            due.holds(type + " is not public", !Modifier.isPublic(type.getModifiers()));
            for (Method method : type.getDeclaredMethods()) methodInside(method);
            for (Field field : type.getDeclaredFields()) staticField(field);
        }
        for (Method method : StackDepths.class.getDeclaredMethods()) {
            if (Modifier.isPrivate(method.getModifiers())) methodInside(method);
        }
        for (Field field : StackDepths.class.getDeclaredFields()) staticField(field);
    }

    private static void methodInside(Method method) {
        boolean fresh = Stream.of(FACE).noneMatch(f -> f.startsWith(method.getName() + "("));
        due.holds(method + " bears no public name", fresh);
        due.holds(method + " has few parameters", method.getParameterCount() <= 7);
    }

    private static void staticField(Field field) {
        if (!Modifier.isStatic(field.getModifiers())) return;
        due.holds(field + " is a constant",
                Modifier.isFinal(field.getModifiers()) && field.getType() == int.class);
    }

    private static String withoutComments(String source) {
        return source.replaceAll("(?s)/\\*.*?\\*/", "").replaceAll("//[^\n]*", "");
    }

    private static void words(String code) {
        for (String word : FORBIDDEN) {
            due.holds("the class does without " + word,
                    !Pattern.compile("\\b" + word + "\\b|Exact").matcher(code).find());
        }
        for (String sign : new String[] {"->", "::", "while (true)", "for (;;)", "\"", " / ", " % ", "@"}) {
            due.holds("the class does without " + sign, !code.contains(sign));
        }
    }

    /** Rule 4 lists functions of these classes and none of their constants (promise 18, shared, had one). */
    private static void library(String code) {
        Matcher use = Pattern.compile("\\b(Integer|Long|Math|Short|Byte|Character|Boolean)\\.(\\w+\\(?)").matcher(code);
        while (use.find()) {
            due.holds("rule 4 lists " + use.group(), LISTED.contains(use.group(1) + "." + use.group(2)));
        }
    }

    /** A method begins at a line that opens a brace behind its parameters and ends at that indent. */
    private static void lengths(String code) {
        String[] lines = code.split("\n");
        Pattern head = Pattern.compile("^( {4}| {8})[a-z].*\\) \\{$");
        Pattern inner = Pattern.compile("^ +(if|for|while|switch|else|do)\\b.*");
        for (int i = 0; i < lines.length; i++) {
            if (!head.matcher(lines[i]).matches() || inner.matcher(lines[i]).matches()) continue;
            String end = lines[i].substring(0, lines[i].length() - lines[i].stripLeading().length()) + "}";
            int last = i;
            while (last < lines.length - 1 && !lines[last].equals(end)) last++;
            due.holds(lines[i].strip() + " is short", last - i <= 60);
        }
    }
}
