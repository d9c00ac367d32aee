import java.io.IOException;
import java.lang.reflect.Method;
import java.lang.reflect.Modifier;
import java.nio.file.Files;
import java.nio.file.Path;
import java.util.ArrayList;
import java.util.HashSet;
import java.util.List;
import java.util.Set;
import java.util.regex.Matcher;
import java.util.regex.Pattern;

/** What of LANGUAGE.md can be seen from the text and the class: the face, words that are not used, sizes. */
public final class LanguageTest {
    private static final String FACE = "feed end fill may need lasts sense watch signal bind act start tick answer hold stop pass reset bars"
            + " row state value still alarm way space danger write second";

    public static void main(String[] args) throws IOException {
        Check check = new Check();
        face(check);
        String text = Files.readString(Path.of("src/main/java/BreweryHouse.java"));
        words(check, text);
        sizes(check, text);
        check.done();
    }

    private static void face(Check check) {
        Set<String> due = new HashSet<>(List.of(FACE.split(" ")));
        for (Method method : BreweryHouse.class.getDeclaredMethods()) {
            boolean isPublic = Modifier.isPublic(method.getModifiers());
            check.due("rule 1: " + method, isPublic, due.contains(method.getName()));
            check.due("rule 1, no other member: " + method, isPublic || Modifier.isPrivate(method.getModifiers()), true);
            check.due("rule 11: " + method, method.getParameterCount() <= 7, true);
        }
        check.due("rule 1: final", Modifier.isFinal(BreweryHouse.class.getModifiers()), true);
        check.due("rule 11: classes", BreweryHouse.class.getDeclaredClasses().length <= 12, true);
        for (Class<?> inside : BreweryHouse.class.getDeclaredClasses()) {
            check.due("rule 2: " + inside, Modifier.isStatic(inside.getModifiers()), true);
            for (Method method : inside.getDeclaredMethods()) {
                check.due("rule 1: " + method, due.contains(method.getName()), false);
                check.due("rule 11: " + method, method.getParameterCount() <= 7, true);
            }
            int fields = 0;
            for (java.lang.reflect.Field field : inside.getDeclaredFields()) {
                fields += Modifier.isStatic(field.getModifiers()) ? 0 : 1;
            }
            check.due("rule 11: fields of " + inside, fields <= 22, true);
        }
    }

    private static void words(Check check, String text) {
        String code = text.replaceAll("/\\*\\*.*?\\*/", "").replaceAll("//[^\n]*", "").replaceAll("\"[^\"\n]*\"", "\"\"");
        Matcher matcher = Pattern.compile("\\b(throw|throws|try|catch|finally|synchronized|assert|volatile|transient|native|var|Object|"
                + "System|Thread|Random|Iterator|protected|double|float)\\b|->|::|\"\"\\s*\\+|\\+\\s*\"\"").matcher(code);
        while (matcher.find()) {
            check.due("rules 3 to 13: " + matcher.group() + " is used", true, false);
        }
        Matcher imports = Pattern.compile("import ([^;]*);").matcher(code);
        while (imports.find()) {
            check.due("rule 4: " + imports.group(1), imports.group(1).equals("java.util.Arrays"), true);
        }
    }

    private static void sizes(Check check, String text) {
        String[] lines = text.split("\n");
        List<Integer> lengths = new ArrayList<>();
        int begin = -1;
        String close = "";
        for (int i = 0; i < lines.length; i++) {
            Matcher method = Pattern.compile("^(    |        )[A-Za-z][^=;]*\\).*\\{$").matcher(lines[i]);
            if (begin < 0 && method.find()) {
                begin = i;
                close = method.group(1) + "}";
            } else if (begin >= 0 && lines[i].equals(close)) {
                lengths.add(i - begin + 1);
                check.due("rule 11, length of: " + lines[begin], i - begin + 1 <= 60, true);
                begin = -1;
            }
            check.due("line " + (i + 1) + " is not too long", lines[i].length() <= 130, true);
        }
        check.due("methods were found", lengths.size() > 100, true);
    }
}
