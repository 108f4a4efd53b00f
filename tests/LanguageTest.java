import java.io.DataInputStream;
import java.io.IOException;
import java.lang.reflect.Field;
import java.lang.reflect.Method;
import java.lang.reflect.Modifier;
import java.nio.file.Files;
import java.nio.file.Path;
import java.util.ArrayList;
import java.util.Arrays;
import java.util.List;
import java.util.TreeSet;
import java.util.regex.Matcher;
import java.util.regex.Pattern;

/** The face of the class, and the rules of LANGUAGE.md that can be seen from its text. */
public final class LanguageTest {
    private static final String SOURCE = "src/main/java/RodDips.java";
    private static final String[] FACE = {
        "barn(int)int", "tryout(int,int,int,int,int)int", "excuse(int,int)int", "of(int,int)int", "feed(long,int)int",
        "plan()int", "told(int,int)int", "passes(int)int", "chance(int,int,int)long", "odds(int,int,int,int,int)long",
        "best(int,int,int,int)long", "fixed(int,int)int", "beats(int)int", "otherwise(int)int", "afterwards(int,int)int",
        "law()int", "says(int,int)int", "cannot(int)int", "fits(int,int)int", "let(int)int",
        "fair(int,int,int,int,int)int", "excuses(int,int,int,int)int", "field(int,int,int)long", "holes(int,int)int",
        "rod(int,int,int)int", "papers(int,int,int)int", "act(int,int,int)int", "trace(int)int", "as(int,int)int",
        "image()int", "undo()int", "count(int)int"};
    /** What the class may use of the library, where it uses any: more of LANGUAGE.md's rule 4 goes in here when it does. */
    private static final String[] LIBRARY = {
        "java/lang/Object.<init>()V", "java/lang/String.length()I", "java/lang/String.charAt(I)C", "java/lang/String.isEmpty()Z",
        "java/lang/String.indexOf(I)I", "java/lang/Integer.bitCount(I)I", "java/lang/Math.abs(I)I", "java/lang/Math.max(II)I",
        "java/lang/Math.min(II)I", "java/lang/System.arraycopy(Ljava/lang/Object;ILjava/lang/Object;II)V", "java/util/Arrays.fill([JJ)V"};
    private static int wrong = 0;

    public static void main(String[] args) throws IOException {
        face();
        classes();
        library();
        String text = withoutComments(Files.readString(Path.of(SOURCE)));
        words(text);
        lengths(text);
        System.out.println(wrong == 0 ? "all rules are kept" : wrong + " rules are not kept");
        if (wrong != 0) System.exit(1);
    }

    private static void rule(boolean kept, String what) {
        if (kept) return;
        wrong++;
        System.out.println("not kept: " + what);
    }

    private static void face() {
        TreeSet<String> seen = new TreeSet<>();
        TreeSet<String> names = new TreeSet<>();
        for (Method method : RodDips.class.getDeclaredMethods()) {
            if (Modifier.isPrivate(method.getModifiers())) continue;
            StringBuilder call = new StringBuilder(method.getName()).append('(');
            for (Class<?> type : method.getParameterTypes()) call.append(call.charAt(call.length() - 1) == '(' ? "" : ",").append(type);
            seen.add(call.append(')').append(method.getReturnType()).toString());
            names.add(method.getName());
            rule(Modifier.isPublic(method.getModifiers()), method + " is public");
        }
        rule(seen.equals(new TreeSet<>(Arrays.asList(FACE))), "the face is " + seen);
        List<Class<?>> all = new ArrayList<>(List.of(RodDips.class));
        all.addAll(Arrays.asList(RodDips.class.getDeclaredClasses()));
        for (Class<?> one : all) {
            for (Method method : one.getDeclaredMethods()) {
                boolean own = one != RodDips.class || Modifier.isPrivate(method.getModifiers());
                rule(!own || !names.contains(method.getName()), method + " bears a name of its own");
            }
        }
        TreeSet<String> fields = new TreeSet<>();
        for (Field field : RodDips.class.getDeclaredFields()) {
            if (!Modifier.isPrivate(field.getModifiers())) fields.add(field.getName());
        }
        rule(fields.equals(new TreeSet<>(List.of("NONE", "BAD", "STATE", "FULL", "NO"))), "the constants are " + fields);
        rule(Modifier.isFinal(RodDips.class.getModifiers()), "the class is final");
    }

    private static void classes() {
        Class<?>[] inside = RodDips.class.getDeclaredClasses();
        rule(inside.length <= 12, "some twelve classes");
        for (Class<?> one : inside) {
            rule(Modifier.isStatic(one.getModifiers()) && !Modifier.isPublic(one.getModifiers()), one + " is static and not public");
            long fields = Arrays.stream(one.getDeclaredFields()).filter(f -> !Modifier.isStatic(f.getModifiers())).count();
            rule(fields <= 20, one + " has some twenty fields");
        }
        long fields = Arrays.stream(RodDips.class.getDeclaredFields()).filter(f -> !Modifier.isStatic(f.getModifiers())).count();
        rule(fields <= 20, "the class has some twenty fields, not " + fields);
    }

    private static void library() throws IOException {
        List<Class<?>> all = new ArrayList<>(List.of(RodDips.class));
        all.addAll(Arrays.asList(RodDips.class.getDeclaredClasses()));
        for (Class<?> one : all) {
            for (String used : usedBy(one)) {
                boolean own = used.startsWith("RodDips") || used.startsWith("[LRodDips");
                rule(own || Arrays.asList(LIBRARY).contains(used), one + " uses no " + used);
            }
        }
    }

    /** The methods and fields that stand in the class file's table of constants. */
    private static TreeSet<String> usedBy(Class<?> one) throws IOException {
        TreeSet<String> used = new TreeSet<>();
        try (DataInputStream in = new DataInputStream(one.getResourceAsStream(one.getName() + ".class"))) {
            in.skipBytes(8);
            int size = in.readUnsignedShort();
            int[] tags = new int[size], first = new int[size], second = new int[size];
            String[] texts = new String[size];
            for (int i = 1; i < size; i++) {
                tags[i] = in.readUnsignedByte();
                switch (tags[i]) {
                    case 1: texts[i] = in.readUTF(); break;
                    case 3: case 4: in.skipBytes(4); break;
                    case 5: case 6: in.skipBytes(8); i++; break;
                    case 7: case 8: first[i] = in.readUnsignedShort(); break;
                    case 9: case 10: case 11: case 12: first[i] = in.readUnsignedShort(); second[i] = in.readUnsignedShort(); break;
                    default: throw new IOException("a constant of tag " + tags[i] + ", as of a lambda or a text joined by +");
                }
            }
            for (int i = 1; i < size; i++) {
                if (tags[i] < 9 || tags[i] > 11) continue;
                int named = second[i];
                used.add(texts[first[first[i]]] + "." + texts[first[named]] + texts[second[named]]);
            }
        }
        return used;
    }

    private static String withoutComments(String text) {
        return text.replaceAll("(?s)/\\*.*?\\*/", "").replaceAll("//[^\n]*", "");
    }

    private static void words(String text) {
        String[] none = {"\\bthrow\\b", "\\btry\\b\\s*[({]", "\\bcatch\\b", "\\bsynchronized\\b", "\\bassert\\b", "->", "::", "\\bpackage\\b",
            "Exact\\(", "\\bRandom\\b", "\\bThread\\b", "System\\.(?!arraycopy)", "\\bprotected\\b", "\\bstatic\\s*\\{", "\\bnew \\w+\\([^)]*\\)\\s*\\{",
            "\\bequals\\b\\s*\\(Object", "hashCode", "toString", "\" *\\+", "\\+ *\"", "[^\\x00-\\x7f]"};
        for (String word : none) {
            Matcher found = Pattern.compile(word).matcher(text);
            rule(!found.find(), "no " + word);
        }
        Matcher imported = Pattern.compile("import ([\\w.]+);").matcher(text);
        while (imported.find()) rule(imported.group(1).equals("java.util.Arrays"), "no import of " + imported.group(1));
        Matcher fields = Pattern.compile("(?m)^    (?:private|public) static (?!final)[\\w\\[\\]<>]+ \\w+\\s*[=;]").matcher(text);
        rule(!fields.find(), "static fields are final");
    }

    private static void lengths(String text) {
        String[] lines = text.split("\n");
        int began = -1;
        for (int i = 0; i < lines.length; i++) {
            boolean head = lines[i].matches("\\s+.*\\) \\{") && !lines[i].matches("\\s+(\\} )?(if|for|while|switch|else|do)\\b.*");
            if (head) began = i;
            if (began >= 0 && lines[i].isBlank()) {
                rule(i - began <= 60, "a method of " + (i - began) + " lines at line " + (began + 1));
                began = -1;
            }
            rule(!head || lines[i].split(",").length <= 7, "seven parameters: " + lines[i]);
        }
    }
}
