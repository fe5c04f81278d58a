import java.lang.reflect.Constructor;
import java.lang.reflect.Field;
import java.lang.reflect.Method;
import java.lang.reflect.Modifier;
import java.nio.file.Files;
import java.nio.file.Path;
import java.util.ArrayList;
import java.util.HashSet;
import java.util.List;
import java.util.Set;
import java.util.TreeSet;
import java.util.regex.Matcher;
import java.util.regex.Pattern;

/** The document's face and no other, and those rules of LANGUAGE.md that can be seen in the class or its source. */
public final class FaceTest {
    private static final String FACE = "boolean day(int) int note(int,int,int,int,int) boolean undo(int) "
            + "int state(int,int,int,int) boolean door(int,int,int) int way(int,int,int,int) int bar(int,int) int out(int) "
            + "int cutOff(int) boolean weigh(int,int,int) int load(int) int broken(int) int adds(int,int,int) "
            + "int feed(int,int,int,int,int) int custom(int) int fault() int rule(int,int) int may(int,int) int pay(int) "
            + "long paid(int) int wire(int,int,int) int amps(int,int) int gone(int) int twice(int) "
            + "boolean supply(int,int) int turn(int,int) int water(int) boolean says(int,int) int kept(int,int,int) "
            + "int foul(int) int fire(int,int) int saved(int) int wall(int) int wish(int,int) int met(int) int clear() "
            + "int goes(int) int count(int)";
    private static final String[] FORBIDDEN = {"throw", "try", "catch", "synchronized", "assert", "->", "::", "protected",
        "double", "float", "Object", "Map", "Set", "Exact", "System.nanoTime", "Random", "Thread", "hashCode", "printStackTrace"};
    private static int wrong;

    public static void main(String[] args) throws Exception {
        face();
        members();
        if (args.length > 0) {
            source(Files.readString(Path.of(args[0])));
        }
        System.out.println("face: " + wrong + " wrong");
        System.exit(wrong == 0 ? 0 : 1);
    }

    private static void expect(String what, boolean holds) {
        if (!holds) {
            wrong++;
            System.out.println("face: " + what);
        }
    }

    private static String shape(Method m) {
        List<String> types = new ArrayList<>();
        for (Class<?> type : m.getParameterTypes()) {
            types.add(type.getSimpleName());
        }
        return m.getReturnType().getSimpleName() + " " + m.getName() + "(" + String.join(",", types) + ")";
    }

    private static void face() {
        Set<String> wanted = new TreeSet<>();
        Matcher shapes = Pattern.compile("\\w+ \\w+\\([^)]*\\)").matcher(FACE);
        while (shapes.find()) {
            wanted.add(shapes.group());
        }
        Set<String> there = new TreeSet<>();
        for (Method m : SixAcres.class.getDeclaredMethods()) {
            if (Modifier.isPublic(m.getModifiers())) {
                there.add(shape(m));
                expect(m.getName() + " is static", !Modifier.isStatic(m.getModifiers()));
            }
        }
        expect("the face is " + there, wanted.equals(there));
        expect("38 methods", wanted.size() == 38);
        int modifiers = SixAcres.class.getModifiers();
        expect("public and final", Modifier.isPublic(modifiers) && Modifier.isFinal(modifiers));
        Constructor<?>[] all = SixAcres.class.getDeclaredConstructors();
        expect("one public constructor", all.length == 1 && Modifier.isPublic(all[0].getModifiers())
                && all[0].getParameterCount() == 0);
    }

    private static void members() {
        Set<String> names = new HashSet<>();
        for (Method m : SixAcres.class.getDeclaredMethods()) {
            if (Modifier.isPublic(m.getModifiers())) {
                names.add(m.getName());
            }
        }
        for (Method m : SixAcres.class.getDeclaredMethods()) {
            int mod = m.getModifiers();
            expect(m + " is neither public nor private", Modifier.isPublic(mod) || Modifier.isPrivate(mod));
            expect(m + " bears a public name", Modifier.isPublic(mod) || !names.contains(m.getName()));
        }
        for (Field f : SixAcres.class.getDeclaredFields()) {
            expect(f + " isn't private", f.getName().equals("NONE") || Modifier.isPrivate(f.getModifiers()));
        }
        Class<?>[] inside = SixAcres.class.getDeclaredClasses();
        expect("too many classes", inside.length <= 12);
        for (Class<?> c : inside) {
            int mod = c.getModifiers();
            expect(c + " isn't static", Modifier.isStatic(mod) && !Modifier.isPublic(mod) && !Modifier.isProtected(mod));
            for (Method m : c.getDeclaredMethods()) {
                expect(m + " bears a public name", !names.contains(m.getName()));
                expect(m + " takes too much", m.getParameterCount() <= 7);
            }
            fields(c);
        }
        fields(SixAcres.class);
    }

    private static void fields(Class<?> c) {
        int own = 0;
        for (Field f : c.getDeclaredFields()) {
            if (Modifier.isStatic(f.getModifiers())) {
                expect(f + " isn't final", Modifier.isFinal(f.getModifiers()));
            } else {
                own++;
            }
        }
        expect(c + " has " + own + " fields", own <= 20);
    }

    private static void source(String text) {
        String code = text.replaceAll("(?s)/\\*.*?\\*/", "").replaceAll("//[^\n]*", "")
                .replaceAll("\"[^\"\n]*\"", "\"\"");
        for (String word : FORBIDDEN) {
            boolean isWord = Character.isLetter(word.charAt(0));
            String pattern = isWord ? "\\b" + Pattern.quote(word) + "\\b" : Pattern.quote(word);
            expect(word + " in the source", !Pattern.compile(pattern).matcher(code).find());
        }
        Matcher imports = Pattern.compile("import ([^;]*);").matcher(code);
        while (imports.find()) {
            expect("import " + imports.group(1), imports.group(1).equals("java.util.Arrays"));
        }
        expect("texts are joined by +", !code.contains("\"\" +") && !code.contains("+ \"\""));
        methods(code);
    }

    /** Methods end at a brace with as much room before it as their first line has. */
    private static void methods(String code) {
        int begun = -1;
        String room = "";
        String[] lines = code.split("\n");
        for (int i = 0; i < lines.length; i++) {
            Matcher head = Pattern.compile("( {4}| {8})(?! )[\\w\\[\\] ]+\\([^;]*\\) \\{").matcher(lines[i]);
            if (begun < 0 && head.matches()) {
                begun = i;
                room = head.group(1);
            } else if (begun >= 0 && lines[i].equals(room + "}")) {
                expect("the method in line " + (begun + 1) + " is too long", i - begun < 60);
                begun = -1;
            }
        }
    }
}
