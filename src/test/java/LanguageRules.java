import java.lang.reflect.Constructor;
import java.lang.reflect.Field;
import java.lang.reflect.Member;
import java.lang.reflect.Method;
import java.lang.reflect.Modifier;
import java.nio.file.Files;
import java.nio.file.Path;
import java.util.ArrayDeque;
import java.util.Arrays;
import java.util.Collections;
import java.util.Deque;
import java.util.IdentityHashMap;
import java.util.Set;
import java.util.TreeSet;
import java.util.regex.Matcher;
import java.util.regex.Pattern;

/** The source and the compiled class beside those rules of LANGUAGE.md that can be read off them. */
public final class LanguageRules {
    private static final String FACE = "as(int,int) become(int,int) bounds(int,int,int) chance(int,int) check() count(int) "
            + "drop(int) end(int,int) found(int) leave(int) limit(int) match(int,int) mean(int) pairing(int,int) player(int) "
            + "season() share(int,int) shift(int,int,int,int) sinking() size(int) surprise(int,int) tell(int) tick() "
            + "wait(int,int,int) waited(int,boolean)";

    private static int wrong = 0;

    private static void due(String what, boolean holds) {
        if (!holds) {
            wrong++;
            System.out.println("not so: " + what);
        }
    }

    /** The code without its comments and texts. */
    private static String bare(String source) {
        return source.replaceAll("(?s)/\\*.*?\\*/", " ").replaceAll("//[^\n]*", " ").replaceAll("\"[^\"\n]*\"", "\"\"");
    }

    private static void words(String code) {
        String[] banned = {"import", "package", "throw", "throws", "try", "catch", "finally", "synchronized", "assert",
            "volatile", "native", "protected", "hashCode", "toString", "System", "Object", "Thread", "HashMap", "Random"};
        for (String word : banned) {
            due("no word " + word, !Pattern.compile("\\b" + word + "\\b").matcher(code).find());
        }
        due("no lambda nor method reference", !code.contains("->") && !code.contains("::"));
        due("no Exact function", !code.contains("Exact("));
        due("no static initialiser", !Pattern.compile("static\\s*\\{").matcher(code).find());
        due("only signs 1 to 127", code.chars().allMatch(c -> c > 0 && c < 128));
        Matcher library = Pattern.compile("\\b(Integer|Long|Math|Arrays)\\.(\\w+)").matcher(code);
        while (library.find()) {
            due("library function " + library.group(), Set.of("bitCount", "min", "max", "abs").contains(library.group(2)));
        }
    }

    private static boolean isVisible(Member member) {
        return !Modifier.isPrivate(member.getModifiers()) && !member.isSynthetic();
    }

    private static String signature(Method method) {
        StringBuilder text = new StringBuilder(method.getName()).append('(');
        for (Class<?> type : method.getParameterTypes()) {
            text.append(text.charAt(text.length() - 1) == '(' ? "" : ",").append(type.getName());
        }
        return text.append(')').toString();
    }

    private static Set<String> face() {
        Set<String> names = new TreeSet<>();
        Set<String> found = new TreeSet<>();
        for (Method method : FairQueue.class.getDeclaredMethods()) {
            if (isVisible(method)) {
                found.add(signature(method));
                names.add(method.getName());
                due(method + " is public and answers a long", Modifier.isPublic(method.getModifiers())
                        && !Modifier.isStatic(method.getModifiers()) && method.getReturnType() == long.class);
            }
        }
        due("the face is the document's, but is " + found, String.join(" ", found).equals(FACE));
        due("the class is public and final", FairQueue.class.getModifiers() == (Modifier.PUBLIC | Modifier.FINAL));
        Constructor<?>[] constructors = FairQueue.class.getDeclaredConstructors();
        due("one public constructor", constructors.length == 1 && Modifier.isPublic(constructors[0].getModifiers())
                && constructors[0].getParameterCount() == 0);
        for (Field field : FairQueue.class.getDeclaredFields()) {
            due(field + " is private", !isVisible(field));
        }
        return names;
    }

    private static void inside(Set<String> names) {
        Class<?>[] classes = FairQueue.class.getDeclaredClasses();
        due("some twelve classes at most", classes.length < 12);
        inside(FairQueue.class, names);
        for (Class<?> one : classes) {
            due(one + " is static and not public", Modifier.isStatic(one.getModifiers())
                    && !Modifier.isPublic(one.getModifiers()));
            due(one + " has no class inside", one.getDeclaredClasses().length == 0);
            inside(one, names);
        }
    }

    private static void inside(Class<?> one, Set<String> names) {
        int fields = 0;
        for (Field field : one.getDeclaredFields()) {
            boolean constant = Modifier.isStatic(field.getModifiers());
            due(field + " is final if static", !constant || Modifier.isFinal(field.getModifiers()));
            fields += constant ? 0 : 1;
        }
        due(one + " has some twenty fields at most", fields <= 20);
        for (Method method : one.getDeclaredMethods()) {
            due(method + " has seven parameters at most", method.getParameterCount() <= 7);
            due(method + " bears no public one's name", one == FairQueue.class && Modifier.isPublic(method.getModifiers())
                    || !names.contains(method.getName()));
        }
    }

    /** The document says which calls each heading stands ahead of. */
    private static void headings(String source) {
        String[][] parts = {
            {"players", "player", "become", "as", "share", "shift", "mean", "chance", "season"},
            {"the queue", "size", "bounds", "wait", "leave", "waited", "pairing", "tick"},
            {"matches", "match", "end", "drop", "surprise", "sinking", "limit"},
            {"what is told", "tell", "check", "count", "found"}};
        int from = 0;
        for (String[] part : parts) {
            for (int i = 0; i < part.length; i++) {
                String line = i == 0 ? "    // ---- " + part[0] + "\n" : "    public long " + part[i] + "(";
                int at = source.indexOf(line, from);
                due(line + " stands behind what the document has ahead of it", at >= 0);
                from = Math.max(at, from);
            }
        }
    }

    private static FairQueue longRun() {
        FairQueue x = new FairQueue();
        for (int i = 0; i < 16; i++) {
            x.player(i % 3);
        }
        x.bounds(10000000, 0, 10000000);
        for (int i = 0; i < 512 - 17; i++) {
            switch (i % 7) {
                case 0: x.tick(); break;
                case 1: x.end(i % 5, i % 3); break;
                case 2: x.drop(i % 16); break;
                case 3: x.check(); break;
                case 4: x.tell(i); break;
                default: x.wait(i % 16, -1, -1);
            }
        }
        return x;
    }

    /** What one object holds, counted: objects and arrays, and their fields and elements. */
    private static long[] room(FairQueue x) throws Exception {
        Set<Object> seen = Collections.newSetFromMap(new IdentityHashMap<>());
        Deque<Object> open = new ArrayDeque<>();
        open.add(x);
        long[] room = {0, 0};
        while (!open.isEmpty()) {
            Object one = open.remove();
            if (!seen.add(one)) {
                continue;
            }
            room[0]++;
            if (one.getClass().isArray()) {
                room[1] += java.lang.reflect.Array.getLength(one);
                if (one instanceof Object[] row) {
                    Arrays.stream(row).filter(e -> e != null).forEach(open::add);
                }
                continue;
            }
            for (Field field : one.getClass().getDeclaredFields()) {
                if (!Modifier.isStatic(field.getModifiers())) {
                    room[1]++;
                    field.setAccessible(true);
                    if (!field.getType().isPrimitive() && field.get(one) != null) {
                        open.add(field.get(one));
                    }
                }
            }
        }
        return room;
    }

    /** Only new FairQueue() and player() make objects, so what an object holds is all that it ever made. */
    private static void roomIsSmall(String code) throws Exception {
        long[] room = room(longRun());
        due("an object holds few objects: " + room[0], room[0] < 200);
        due("and few fields and elements: " + room[1], room[1] < 2000);
        Matcher made = Pattern.compile("\\bnew\\s+(\\w+)\\s*[(\\[]").matcher(code);
        int makers = 0;
        while (made.find()) {
            makers++;
        }
        Matcher inPlace = Pattern.compile("(?m)^\\s+(?:row\\[\\w+\\]|\\w+) = new \\w+[(\\[]").matcher(code);
        int kept = 0;
        while (inPlace.find()) {
            kept++;
        }
        due("each object that is made is put in a field or a row, " + makers + " and " + kept, makers == kept);
    }

    public static void main(String[] args) throws Exception {
        String source = Files.readString(Path.of("src/main/java/FairQueue.java"));
        String code = bare(source);
        words(code);
        headings(source);
        inside(face());
        roomIsSmall(code);
        System.out.println(wrong == 0 ? "the rules are kept" : wrong + " rules are not kept");
        if (wrong != 0) {
            System.exit(1);
        }
    }
}
