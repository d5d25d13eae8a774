import java.io.IOException;
import java.lang.reflect.Executable;
import java.lang.reflect.Field;
import java.lang.reflect.Method;
import java.lang.reflect.Modifier;
import java.nio.file.Files;
import java.nio.file.Path;
import java.util.ArrayList;
import java.util.Arrays;
import java.util.List;
import java.util.Set;
import java.util.TreeSet;
import java.util.regex.Matcher;
import java.util.regex.Pattern;

/** The rules of ../shared/LANGUAGE.md, as far as a look at the source and the classes can tell. */
public final class RulesTest {
    private static final String SOURCE = "src/main/java/PawnRace.java";
    private static final String[] BANNED = {"->", "::", "\\btry\\b", "\\bcatch\\b", "\\bfinally\\b", "\\bassert\\b",
        "\\bsynchronized\\b", "\\bvolatile\\b", "\\btransient\\b", "\\bnative\\b", "\\bprotected\\b", "static\\s*\\{",
        "\\bvar\\b", "\"\\s*\\+", "\\+\\s*\"", "\\bequals\\b", "\\bhashCode\\b", "\\btoString\\b", "\\bpackage\\b",
        "Math\\.(?!min|max|abs|floorDiv|floorMod)", "System\\.(?!arraycopy)", "Arrays\\.(?!fill|copyOf)",
        "import (?!java\\.util\\.Arrays;)", "throw (?!new (IllegalState|IllegalArgument|IndexOutOfBounds)Exception\\()"};

    private RulesTest() {
    }

    public static void main(String[] args) throws IOException {
        String source = Files.readString(Path.of(SOURCE));
        banned(source);
        lengths(source);
        face();
        classes();
        Check.end();
    }

    private static String withoutComments(String source) {
        return source.replaceAll("(?s)/\\*.*?\\*/", "").replaceAll("//[^\n]*", "");
    }

    private static void banned(String source) {
        String code = withoutComments(source);
        for (String banned : BANNED) {
            Matcher matcher = Pattern.compile(banned).matcher(code);
            String found = matcher.find() ? "'" + matcher.group() + "'" : "nothing";
            Check.due("a search for " + banned, found, "nothing");
        }
        Check.due("all signs are plain", source.chars().allMatch(c -> c >= 1 && c <= 127), true);
    }

    /** Methods are told by their indentation, as the source is laid out. */
    private static void lengths(String source) {
        String[] lines = source.split("\n");
        int methods = 0;
        for (int i = 0; i < lines.length; i++) {
            Matcher start = Pattern.compile("^((    )+)[A-Za-z].*\\) .*\\{$").matcher(lines[i]);
            if (!start.matches() || lines[i].matches(" *(if|for|while|switch|do|else|return|try)\\b.*")) {
                continue;
            }
            int end = i + 1;
            while (!lines[end].equals(start.group(1) + "}")) {
                end++;
            }
            methods++;
            Check.due("a short method at line " + (i + 1), end - i < 60, true);
        }
        Check.due("methods were found", methods > 100, true);
    }

    private static void face() throws IOException {
        String doc = Files.readString(Path.of("../shared/DOC.md"));
        String block = doc.substring(doc.indexOf("public final class"), doc.indexOf("## Description"));
        Set<String> due = new TreeSet<>();
        Matcher matcher = Pattern.compile("public (int|boolean) (\\w+)\\((.*?)\\)(?: throws (.*?))?;").matcher(block);
        while (matcher.find()) {
            String types = matcher.group(3).replaceAll(" \\w+(, |$)", "$1");
            String thrown = matcher.group(4) == null ? "" : matcher.group(4);
            due.add(matcher.group(1) + " " + matcher.group(2) + "(" + types + ") " + thrown);
        }
        Set<String> found = new TreeSet<>();
        Set<String> own = new TreeSet<>();
        Set<String> names = new TreeSet<>();
        for (Method method : PawnRace.class.getDeclaredMethods()) {
            if (Modifier.isPrivate(method.getModifiers())) {
                own.add(method.getName());
                continue;
            }
            Check.due(method.getName() + " is public", Modifier.isPublic(method.getModifiers()), true);
            names.add(method.getName());
            found.add(method.getReturnType() + " " + method.getName() + "(" + listed(method.getParameterTypes()) + ") "
                + listed(method.getExceptionTypes()));
        }
        Check.due("methods of the face", due.size(), 44);
        Check.due("the face", found.toString(), due.toString());
        own.retainAll(names);
        Check.due("private methods with the name of a public one", own.toString(), "[]");
        Check.due("constructors", Arrays.toString(PawnRace.class.getDeclaredConstructors()), "[public PawnRace()]");
        Check.due("the class", Modifier.toString(PawnRace.class.getModifiers()), "public final");
    }

    private static String listed(Class<?>[] types) {
        List<String> names = new ArrayList<>();
        for (Class<?> type : types) {
            names.add(type.getSimpleName());
        }
        return String.join(", ", names);
    }

    private static void classes() {
        List<Class<?>> all = new ArrayList<>(List.of(PawnRace.class.getDeclaredClasses()));
        Check.due("some twelve classes, " + all.size(), all.size() <= 12, true);
        for (Class<?> inside : all) {
            Check.due(inside + " is static", Modifier.isStatic(inside.getModifiers()), true);
            Check.due(inside + " is private", Modifier.isPrivate(inside.getModifiers()), true);
        }
        all.add(PawnRace.class);
        for (Class<?> each : all) {
            int fields = 0;
            for (Field field : each.getDeclaredFields()) {
                boolean isStatic = Modifier.isStatic(field.getModifiers());
                fields += isStatic ? 0 : 1;
                Check.due(field + " is final", !isStatic || Modifier.isFinal(field.getModifiers()), true);
                boolean isFace = each == PawnRace.class && field.getName().equals("NONE");
                Check.due(field + " is public", Modifier.isPublic(field.getModifiers()), isFace);
            }
            Check.due(each + " has some twenty fields", fields <= 20, true);
            List<Executable> calls = new ArrayList<>(List.of(each.getDeclaredMethods()));
            calls.addAll(List.of(each.getDeclaredConstructors()));
            for (Executable call : calls) {
                Check.due(call + " takes at most seven", call.getParameterCount() <= 7, true);
            }
        }
    }
}
