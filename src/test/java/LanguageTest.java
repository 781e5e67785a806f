import java.io.IOException;
import java.lang.reflect.Constructor;
import java.lang.reflect.Field;
import java.lang.reflect.Member;
import java.lang.reflect.Method;
import java.lang.reflect.Modifier;
import java.nio.file.Files;
import java.nio.file.Path;
import java.util.ArrayList;
import java.util.HashSet;
import java.util.List;
import java.util.Set;
import java.util.TreeSet;
import java.util.regex.Matcher;
import java.util.regex.Pattern;

/** Those rules of LANGUAGE.md that can be looked up: the face, the sizes, the words that are ruled out. */
public final class LanguageTest {
    private static final String FACE = "feed(int,int,int,int,int):int end(int):boolean load(int):int fault(int):int "
        + "drop(int):boolean look(int,int):int kind(int,int):int action(int,int,int):int print(int):int out(int):int "
        + "take():int outcomes(int,int):int value(int,int,int,int):int stuck(int,int,int):int wish(int,int):boolean "
        + "allowed(int,int):int witness(int):int step(int):int races(int):int race(int,int,int):int "
        + "before(int,int,int):int fence(int,int):int make(int,int,int):int same(int,int):boolean";

    public static void main(String[] args) throws IOException {
        face();
        classes();
        words(Files.readString(Path.of("src/main/java/LitmusHouse.java")));
        lengths(Files.readAllLines(Path.of("src/main/java/LitmusHouse.java")));
        House.close("language");
    }

    private static void face() {
        Set<String> got = new TreeSet<>();
        for (Method method : LitmusHouse.class.getDeclaredMethods()) {
            if (Modifier.isPublic(method.getModifiers())) {
                List<String> types = new ArrayList<>();
                for (Class<?> type : method.getParameterTypes()) {
                    types.add(type.getName());
                }
                got.add(method.getName() + "(" + String.join(",", types) + "):" + method.getReturnType());
            }
        }
        House.due("the face", got, new TreeSet<>(List.of(FACE.split(" "))));
        House.due("the class", Modifier.toString(LitmusHouse.class.getModifiers()), "public final");
        List<String> open = new ArrayList<>();
        for (Member member : membersOf(LitmusHouse.class)) {
            boolean known = Modifier.isPublic(member.getModifiers());
            if (!known && !Modifier.isPrivate(member.getModifiers())) {
                open.add(member.getName());
            }
            if (member instanceof Field && known && !member.getName().equals("NONE")) {
                open.add(member.getName());
            }
        }
        House.due("members that should be private", open, List.of());
    }

    private static List<Member> membersOf(Class<?> type) {
        List<Member> members = new ArrayList<>(List.of(type.getDeclaredMethods()));
        members.addAll(List.of(type.getDeclaredFields()));
        for (Constructor<?> constructor : type.getDeclaredConstructors()) {
            members.add(constructor);
        }
        members.removeIf(Member::isSynthetic);
        return members;
    }

    private static void classes() {
        List<Class<?>> all = new ArrayList<>(List.of(LitmusHouse.class.getDeclaredClasses()));
        House.due("classes beside the house (" + all.size() + ")", all.size() < 12, true);
        Set<String> face = new HashSet<>();
        for (String name : FACE.split(" ")) {
            face.add(name.substring(0, name.indexOf('(')));
        }
        for (Class<?> type : all) {
            House.due(type + " is static", Modifier.isStatic(type.getModifiers()), true);
            House.due(type + " is private", Modifier.isPrivate(type.getModifiers()), true);
        }
        all.add(LitmusHouse.class);
        for (Class<?> type : all) {
            int fields = 0;
            for (Field field : type.getDeclaredFields()) {
                boolean fixed = Modifier.isStatic(field.getModifiers());
                fields += fixed ? 0 : 1;
                House.due(field + " is final if it is static", !fixed || Modifier.isFinal(field.getModifiers()), true);
            }
            House.due("fields of " + type + " (" + fields + ")", fields <= 20, true);
            for (Method method : type.getDeclaredMethods()) {
                boolean own = type == LitmusHouse.class && Modifier.isPublic(method.getModifiers());
                House.due(method + " bears a name of the face", !own && face.contains(method.getName()), false);
                House.due("parameters of " + method, method.getParameterCount() <= 7, true);
            }
        }
    }

    private static void words(String source) {
        String bare = source.replaceAll("(?s)/\\*.*?\\*/", "").replaceAll("//[^\n]*", "");
        String[] ruledOut = {"->", "::", "\\bfinally\\b", "\\btry\\b", "\\bcatch\\b", "\\bsynchronized\\b", "\\bassert\\b",
            "\\bvar\\b", "\\bhashCode\\b", "\\btoString\\b", "Exact\\b", "\\bSystem\\.(?!arraycopy)", "\\bpackage\\b",
            "\\bstatic\\s*\\{", "\\bRandom\\b", "\\bThread\\b", "\\bObject\\b", "@"};
        for (String word : ruledOut) {
            Matcher found = Pattern.compile(word).matcher(bare);
            House.due("the word " + word, found.find(), false);
        }
        Matcher imports = Pattern.compile("import ([^;]+);").matcher(bare);
        while (imports.find()) {
            String name = imports.group(1);
            House.due("import " + name, name.equals("java.util.Arrays") || name.equals("java.util.NoSuchElementException"), true);
        }
    }

    /** Methods stand at four blanks in the house, at eight in the classes inside it. */
    private static void lengths(List<String> lines) {
        Pattern head = Pattern.compile("^( {4}| {8})[a-zA-Z].*\\) (throws .*)?\\{$");
        for (int i = 0; i < lines.size(); i++) {
            Matcher found = head.matcher(lines.get(i));
            if (!found.matches()) {
                continue;
            }
            int last = i;
            while (last < lines.size() && !lines.get(last).equals(found.group(1) + "}")) {
                last++;
            }
            House.due("length of" + lines.get(i) + " (" + (last - i + 1) + ")", last - i + 1 <= 60, true);
        }
    }
}
