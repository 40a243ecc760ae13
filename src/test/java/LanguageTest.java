import java.lang.reflect.Constructor;
import java.lang.reflect.Field;
import java.lang.reflect.Method;
import java.lang.reflect.Modifier;
import java.nio.file.Files;
import java.nio.file.Path;
import java.util.ArrayList;
import java.util.List;
import java.util.Set;
import java.util.TreeSet;
import java.util.regex.Matcher;
import java.util.regex.Pattern;

/** The rules of LANGUAGE.md that can be looked at from outside: the face, and words that may not stand in the file. */
public final class LanguageTest {
    private static final String[] FACE = {
        "letter(int):int", "blank():int", "fault():int", "put(int):int", "classOf(int):int", "core(int):int",
        "symbol(int,int,int):int", "square(int,int):int", "at(int,int):int", "about(int,int):int", "like(int,int):int",
        "meets(int,int):int", "row(int,int):int", "way(int,int,int):int", "clear(int):int", "join(int,int,int):int",
        "times(int,int,int):int", "scale(int,int):int", "turn(int,int,int,int,int):int", "drop(int,int):int",
        "undo():int", "pairs(int):int", "pair(int,int):int", "met(int,int):int", "lay(int,int):int", "count(int):int",
        "digest():long"};
    private static final String[] BANNED = {
        "\\bthrow\\b", "\\bthrows\\b", "\\btry\\b", "\\bcatch\\b", "\\bfinally\\b", "\\bsynchronized\\b", "\\bassert\\b", "->", "::",
        "\\bimport\\b", "\\bpackage\\b", "\\w+Exact\\b", "\\bSystem\\.(?!arraycopy)", "\\bMath\\.(sqrt|random|pow)", "\\bdouble\\b",
        "\\bfloat\\b", "\\bObject\\b", "\\bThread\\b", "\\bstatic\\s*\\{", "\\bwhile\\s*\\(\\s*true", "for\\s*\\(\\s*;\\s*;"};
    private static final int LINES_OF_METHOD = 60;
    private static int wrong = 0;

    private static void need(boolean fine, String told) {
        if (!fine) {
            wrong++;
            System.out.println("LanguageTest: " + told);
        }
    }

    public static void main(String[] args) throws Exception {
        String path = args.length > 0 ? args[0] : "src/main/java/FormPlaces.java";
        String code = Files.readString(Path.of(path));
        String bare = withoutComments(code);
        for (String banned : BANNED) {
            Matcher found = Pattern.compile(banned).matcher(bare);
            need(!found.find(), "the file has " + banned);
        }
        need(code.chars().allMatch(c -> c < 128), "the file has a sign above 127");
        face();
        for (Class<?> inside : FormPlaces.class.getDeclaredClasses()) nested(inside);
        need(FormPlaces.class.getDeclaredClasses().length < 12, "too many classes");
        methodLengths(bare);
        System.out.println("LanguageTest: " + (wrong == 0 ? "all as due" : wrong + " not as due"));
        if (wrong != 0) System.exit(1);
    }

    private static String withoutComments(String code) {
        return code.replaceAll("(?s)/\\*.*?\\*/", "").replaceAll("//[^\n]*", "");
    }

    private static void face() {
        Class<?> type = FormPlaces.class;
        need(Modifier.isFinal(type.getModifiers()) && Modifier.isPublic(type.getModifiers()), "not public and final");
        Set<String> got = new TreeSet<>();
        Set<String> names = new TreeSet<>();
        List<String> hidden = new ArrayList<>();
        for (Method method : type.getDeclaredMethods()) {
            StringBuilder text = new StringBuilder(method.getName()).append('(');
            for (Class<?> parameter : method.getParameterTypes())
                text.append(text.charAt(text.length() - 1) == '(' ? "" : ",").append(parameter.getName());
            text.append("):").append(method.getReturnType().getName());
            if (Modifier.isPublic(method.getModifiers())) {
                got.add(text.toString());
                names.add(method.getName());
            } else {
                need(Modifier.isPrivate(method.getModifiers()), method + " is seen from outside");
                hidden.add(method.getName());
            }
        }
        need(got.equals(new TreeSet<>(List.of(FACE))), "the face is " + got);
        for (String name : hidden) need(!names.contains(name), "a private method is named " + name);
        for (Constructor<?> made : type.getDeclaredConstructors())
            need(made.getParameterCount() == 0 && Modifier.isPublic(made.getModifiers()), "constructor " + made);
        Set<String> constants = new TreeSet<>();
        for (Field field : type.getDeclaredFields()) {
            if (Modifier.isPublic(field.getModifiers())) constants.add(field.getName());
            else need(Modifier.isPrivate(field.getModifiers()), field + " is seen from outside");
            if (Modifier.isStatic(field.getModifiers())) need(Modifier.isFinal(field.getModifiers()), field + " is not final");
        }
        need(constants.equals(new TreeSet<>(List.of("NONE", "UNKNOWN", "OUTSIDE", "STATE", "FULL"))), "constants " + constants);
    }

    private static void nested(Class<?> inside) {
        need(Modifier.isStatic(inside.getModifiers()), inside + " is not static");
        need(!Modifier.isPublic(inside.getModifiers()), inside + " is public");
        int fields = 0;
        for (Field field : inside.getDeclaredFields()) {
            if (Modifier.isStatic(field.getModifiers())) need(Modifier.isFinal(field.getModifiers()), field + " is not final");
            else fields++;
        }
        need(fields <= 20, inside + " has too many fields");
        for (Method method : inside.getDeclaredMethods()) {
            need(method.getParameterCount() <= 7, method + " has too many parameters");
            for (String call : FACE)
                need(!call.startsWith(method.getName() + "("), method + " bears the name of a call of the face");
        }
    }

    private static void methodLengths(String bare) {
        String[] lines = bare.split("\n");
        int start = -1;
        String close = "";
        for (int k = 0; k < lines.length; k++) {
            Matcher head = Pattern.compile("^( {4}| {8})\\S.*\\) \\{$").matcher(lines[k]);
            if (start < 0 && head.find() && !lines[k].contains(" class ")) {
                start = k;
                close = head.group(1) + "}";
            } else if (start >= 0 && lines[k].equals(close)) {
                need(k - start < LINES_OF_METHOD, "a method is too long: " + lines[start].trim());
                start = -1;
            }
        }
    }
}
