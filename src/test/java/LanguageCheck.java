import java.io.IOException;
import java.lang.reflect.Array;
import java.lang.reflect.Constructor;
import java.lang.reflect.Field;
import java.lang.reflect.Method;
import java.lang.reflect.Modifier;
import java.nio.file.Files;
import java.nio.file.Path;
import java.util.ArrayList;
import java.util.Arrays;
import java.util.Collections;
import java.util.IdentityHashMap;
import java.util.List;
import java.util.Set;
import java.util.TreeSet;
import java.util.regex.Matcher;
import java.util.regex.Pattern;

/** What of ../shared/LANGUAGE.md and of the document's face can be seen by a look at the source and the class. */
public final class LanguageCheck {
    private static final int MOST_METHOD_LINES = 60;
    private static final int MOST_PARAMETERS = 7;
    private static final int MOST_FIELDS = 20;
    private static final int MOST_CLASSES = 13;
    private static final int MOST_OBJECTS = 60;
    private static final int MOST_ROOM = 110000;
    private static int wrong;

    private static final Set<String> FACE = new TreeSet<>(List.of(
            "int law(int,int,int,int)", "boolean length(int)", "boolean rota(int)", "boolean kind(int,int,int)",
            "int feed(int,int,int,int,int)", "int text(int)", "int may(int)", "int make(int)", "int at(int)",
            "int holding()", "int worth(int)", "int would(int)", "int run(int,int)", "int mean(int)",
            "int best(int,int,int)", "int all(int,int)", "int bestRow(int,int)", "boolean quiet()", "int soon(int)",
            "int held(int,int,int)", "int number(int,int)", "boolean deed(int,int)", "int lawful(int)",
            "int fits(int,int)", "boolean seed(int)", "int draw(int)", "int book(int,int)", "int keep()",
            "boolean undo()", "int check(int)", "int count(int)"));

    private LanguageCheck() { }

    public static void main(String[] args) throws IOException, IllegalAccessException {
        String source = Files.readString(Path.of("src/main/java/NineLaws.java"));
        String bare = withoutTexts(source);
        words(bare);
        library(bare);
        methods(bare);
        face();
        members();
        madeWhere(bare);
        room();
        System.out.println(wrong == 0 ? "the language is kept to" : wrong + " places against the language");
        if (wrong != 0) {
            System.exit(1);
        }
    }

    private static void say(String what) {
        wrong++;
        System.out.println(what);
    }

    private static String withoutTexts(String source) {
        return source.replaceAll("(?s)/\\*.*?\\*/", "").replaceAll("//[^\n]*", "")
                .replaceAll("\"(\\\\.|[^\"\\\\])*\"", "\"\"").replaceAll("'(\\\\.|[^'\\\\])'", "' '");
    }

    private static void words(String bare) {
        String[] forbidden = {"\\bthrows?\\b", "\\btry\\b", "\\bcatch\\b", "\\bsynchronized\\b", "\\bassert\\b", "->",
            "::", "@", "\\bpackage\\b", "Exact\\b", "\\bvolatile\\b", "\\bnative\\b", "\\bThread\\b", "\\bSystem\\.(?!arraycopy)",
            "\\bObject\\b", "\\bvar\\b", "\\bString\\.format\\b", "\\bRandom\\b", "\\bhashCode\\b", "\\btoString\\b",
            "\\bnull\\b", "\\bboolean\\[\\]", "\\bextends\\b", "\\bwhile \\(true"};
        for (String word : forbidden) {
            if (Pattern.compile(word).matcher(bare).find()) {
                say("the source has " + word);
            }
        }
    }

    private static void library(String bare) {
        Set<String> known = Set.of("Math.max", "Math.min", "Math.abs", "Integer.bitCount", "Arrays.fill",
                "System.arraycopy");
        Matcher used = Pattern.compile("\\b(Math|Integer|Long|Arrays|System|List|String)\\.(\\w+)").matcher(bare);
        while (used.find()) {
            if (!known.contains(used.group())) {
                say("the library's " + used.group());
            }
        }
        Matcher imports = Pattern.compile("import ([\\w.*]+);").matcher(bare);
        while (imports.find()) {
            if (!imports.group(1).equals("java.util.Arrays")) {
                say("imports " + imports.group(1));
            }
        }
    }

    /** By the braces: a method begins behind a ) and a brace in a class. */
    private static void methods(String bare) {
        String[] lines = bare.split("\n", -1);
        Pattern head = Pattern.compile("^( {4}| {8})(?:\\w+ )*(\\w+)\\(([^()]*)\\) \\{$");
        for (int i = 0; i < lines.length; i++) {
            Matcher method = head.matcher(lines[i]);
            if (!method.matches() || lines[i].contains(" if ") || lines[i].contains(" for ")) {
                continue;
            }
            int end = i;
            while (!lines[end].equals(method.group(1) + "}")) {
                end++;
            }
            if (end - i + 1 > MOST_METHOD_LINES) {
                say(method.group(2) + " has " + (end - i + 1) + " lines");
            }
            if (method.group(3).split(",").length > MOST_PARAMETERS) {
                say(method.group(2) + " has too many parameters");
            }
        }
    }

    /** Only constructors make objects: no call costs a run more of its one room. */
    private static void madeWhere(String bare) {
        String constructor = bare.replaceAll("(?s).*\n    public NineLaws\\(\\) \\{\n(.*?)\n    \\}\n.*", "$1");
        String rest = bare.replace(constructor, "");
        for (String line : rest.split("\n")) {
            if (line.contains("new ") && !line.matches(" +private final [\\w\\[\\]]+ \\w+ = new .*;")) {
                say("makes an object: " + line.trim());
            }
        }
    }

    /** All runs' towns share one room: what one town takes of it. */
    private static void room() throws IllegalAccessException {
        Set<Object> seen = Collections.newSetFromMap(new IdentityHashMap<>());
        List<Object> open = new ArrayList<>(List.of(new NineLaws()));
        int room = 0;
        while (!open.isEmpty()) {
            Object one = open.remove(open.size() - 1);
            if (!seen.add(one)) {
                continue;
            }
            if (one.getClass().isArray()) {
                room += Array.getLength(one);
                continue;
            }
            for (Field field : one.getClass().getDeclaredFields()) {
                if (!Modifier.isStatic(field.getModifiers())) {
                    room++;
                    field.setAccessible(true);
                    if (!field.getType().isPrimitive()) {
                        open.add(field.get(one));
                    }
                }
            }
        }
        if (room > MOST_ROOM || seen.size() > MOST_OBJECTS) {
            say("a town takes " + seen.size() + " objects and arrays, " + room + " fields and elements");
        }
    }

    private static String told(Method method) {
        StringBuilder all = new StringBuilder(method.getReturnType() + " " + method.getName() + "(");
        for (Class<?> parameter : method.getParameterTypes()) {
            all.append(all.charAt(all.length() - 1) == '(' ? "" : ",").append(parameter);
        }
        return all.append(")").toString();
    }

    private static void face() {
        Set<String> open = new TreeSet<>();
        Set<String> names = new TreeSet<>();
        for (Method method : NineLaws.class.getDeclaredMethods()) {
            if (!Modifier.isPrivate(method.getModifiers())) {
                open.add(told(method));
                names.add(method.getName());
            }
        }
        if (!open.equals(FACE)) {
            say("the face is " + open);
        }
        for (Class<?> one : classes()) {
            for (Method method : one.getDeclaredMethods()) {
                boolean hidden = one != NineLaws.class || Modifier.isPrivate(method.getModifiers());
                if (hidden && names.contains(method.getName())) {
                    say(one.getName() + " has a method of its own with the public name " + method.getName());
                }
            }
        }
        for (Field field : NineLaws.class.getDeclaredFields()) {
            if (!Modifier.isPrivate(field.getModifiers()) && !field.getName().equals("NONE")) {
                say("an open field " + field.getName());
            }
        }
        Constructor<?>[] constructors = NineLaws.class.getDeclaredConstructors();
        if (constructors.length != 1 || !Modifier.isPublic(constructors[0].getModifiers())
                || constructors[0].getParameterCount() != 0 || !Modifier.isFinal(NineLaws.class.getModifiers())) {
            say("constructors or the class are not as told");
        }
    }

    private static List<Class<?>> classes() {
        List<Class<?>> all = new ArrayList<>(Arrays.asList(NineLaws.class.getDeclaredClasses()));
        all.add(NineLaws.class);
        return all;
    }

    private static void members() {
        List<Class<?>> all = classes();
        if (all.size() > MOST_CLASSES) {
            say(all.size() + " classes");
        }
        for (Class<?> one : all) {
            int fields = 0;
            if (one != NineLaws.class && !(Modifier.isStatic(one.getModifiers()) && Modifier.isFinal(one.getModifiers()))) {
                say(one.getName() + " is not static and final");
            }
            for (Field field : one.getDeclaredFields()) {
                boolean isStatic = Modifier.isStatic(field.getModifiers());
                fields += isStatic ? 0 : 1;
                if (isStatic && !Modifier.isFinal(field.getModifiers())) {
                    say(one.getName() + " has a static field that is not final: " + field.getName());
                }
            }
            if (fields > MOST_FIELDS) {
                say(one.getName() + " has " + fields + " fields");
            }
        }
    }
}
