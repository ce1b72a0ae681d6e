import java.io.IOException;
import java.lang.reflect.Field;
import java.lang.reflect.Modifier;
import java.nio.file.Files;
import java.nio.file.Path;
import java.util.regex.Matcher;
import java.util.regex.Pattern;

/** Rules of LANGUAGE.md that the source's own words show. */
final class LanguageTest {
    private static final Check c = new Check();
    private static final String[] NEVER = {"throw", "throws", "try", "catch", "finally", "synchronized", "assert", "package",
        "protected", "volatile", "native", "Object", "System\\.(?!arraycopy)", "Math\\.\\w*Exact", "Random", "Thread", "Exception",
        "->", "::", "hashCode", "getClass", "@\\w+", "float", "double", "static \\{"};

    /** The source without its comments, so that their words do not count. */
    private static String code(String source) {
        return source.replaceAll("(?s)/\\*.*?\\*/", "").replaceAll("//[^\n]*", "");
    }

    private static void words(String code) {
        for (String word : NEVER) {
            String whole = Character.isLetter(word.charAt(0)) ? "\\b" + word + (word.matches("\\w+") ? "\\b" : "") : word;
            c.due("'" + word + "'", Pattern.compile(whole).matcher(code).results().count(), 0);
        }
        Matcher imports = Pattern.compile("(?m)^import (.*);").matcher(code);
        while (imports.find()) c.due("import " + imports.group(1), imports.group(1).equals("java.util.Arrays") ? 1 : 0, 1);
        c.due("signs above 127", code.chars().filter(s -> s > 127).count(), 0);
    }

    /** A method's head stands at the depth of its class and ends with an opening brace. */
    private static void methods(String code) {
        String[] lines = code.split("\n");
        for (int i = 0; i < lines.length; i++) {
            Matcher head = Pattern.compile("^( {4}| {8})(?!private static final class)[A-Za-z][^=;]*\\(([^)]*)\\) \\{$").matcher(lines[i]);
            if (!head.matches() || lines[i].matches("\\s*(for|if|while|switch|else)\\b.*")) continue;
            int end = i;
            while (end < lines.length && !lines[end].equals(head.group(1) + "}")) end++;
            c.due("at most 60 lines:" + lines[i], end - i < 60 ? 1 : 0, 1);
            c.due("at most 7 parameters:" + lines[i], head.group(2).split(",").length <= 7 ? 1 : 0, 1);
        }
    }

    /** Calls make no object: all is made with the SnowHouse, so that a run's room does not grow with its calls. */
    private static void makes(String code) {
        boolean inConstructor = false;
        for (String line : code.split("\n")) {
            if (line.startsWith("    public SnowHouse()")) inConstructor = true;
            if (line.equals("    }")) inConstructor = false;
            boolean isField = line.matches("\\s+(private )?(final )?[\\w\\[\\]]+ \\w+ = new .*;");
            boolean makes = Pattern.compile("\\bnew\\b").matcher(line).find();
            c.due("made with the SnowHouse:" + line, !makes || isField || inConstructor ? 1 : 0, 1);
        }
    }

    private static void fields(Class<?> one) {
        int fields = 0;
        for (Field f : one.getDeclaredFields()) if (!Modifier.isStatic(f.getModifiers())) fields++;
        c.due("at most 20 fields in " + one, fields <= 20 ? 1 : 0, 1);
    }

    private static void sizes() {
        int classes = 1;
        fields(SnowHouse.class);
        for (Class<?> inside : SnowHouse.class.getDeclaredClasses()) {
            classes++;
            fields(inside);
        }
        c.due("at most 12 classes", classes <= 12 ? 1 : 0, 1);
    }

    public static void main(String[] args) throws IOException {
        String code = code(Files.readString(Path.of(args[0])));
        c.at("LANGUAGE.md");
        words(code);
        methods(code);
        makes(code);
        sizes();
        c.end("LanguageTest");
    }
}
