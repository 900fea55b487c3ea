import java.io.IOException;
import java.lang.reflect.Array;
import java.lang.reflect.Constructor;
import java.lang.reflect.Field;
import java.lang.reflect.Method;
import java.lang.reflect.Modifier;
import java.nio.charset.StandardCharsets;
import java.nio.file.Files;
import java.nio.file.Path;
import java.util.ArrayList;
import java.util.Arrays;
import java.util.HashSet;
import java.util.IdentityHashMap;
import java.util.List;
import java.util.Map;
import java.util.Random;
import java.util.Set;
import java.util.TreeSet;
import java.util.regex.Matcher;
import java.util.regex.Pattern;

/** The class's face, the rules of LANGUAGE.md that can be seen in its text, and the room that an object takes. */
public final class FaceTest {
    private static final Path SOURCE = Path.of("src/main/java/SongReader.java");
    // 7.3 million fields and elements, if each of 512 calls were a new object.
    private static final int ROOM = 14000;

    private static int wrong = 0;

    public static void main(String[] args) throws Exception {
        checkMembers();
        checkInnerClasses();
        checkWords();
        checkRoom();
        checkAnyArguments();
        System.out.println(wrong == 0 ? "the face is as due" : wrong + " things are not as due");
        System.exit(wrong == 0 ? 0 : 1);
    }

    private static void complain(String what) {
        wrong++;
        System.out.println(what);
    }

    private static void checkMembers() throws Exception {
        Set<String> due = new TreeSet<>(Arrays.asList(
            "public int SongReader.feed(int,int,int,int,int)",
            "public boolean SongReader.end(int)",
            "public boolean SongReader.harm(int,int)",
            "public int SongReader.page(int,int,long,int,int,boolean)",
            "public int SongReader.read()",
            "public int SongReader.sample(int,int)",
            "public int SongReader.look(int)",
            "public int SongReader.sum(int)",
            "public int SongReader.taped()",
            "public SongReader()",
            "public static final int SongReader.NONE"));
        Set<String> open = new TreeSet<>();
        for (Method method : SongReader.class.getDeclaredMethods()) {
            if (!Modifier.isPrivate(method.getModifiers())) {
                open.add(method.toString());
            }
        }
        for (Constructor<?> constructor : SongReader.class.getDeclaredConstructors()) {
            open.add(constructor.toString());
        }
        for (Field field : SongReader.class.getDeclaredFields()) {
            if (!Modifier.isPrivate(field.getModifiers())) {
                open.add(field.toString());
            }
        }
        if (!open.equals(due)) {
            complain("the face is " + open);
        }
        if (SongReader.NONE != -1) {
            complain("NONE is " + SongReader.NONE);
        }
        int modifiers = SongReader.class.getModifiers();
        if (!Modifier.isPublic(modifiers) || !Modifier.isFinal(modifiers)) {
            complain("the class is not public and final");
        }
    }

    private static void checkInnerClasses() {
        Set<String> faceNames = new HashSet<>();
        for (Method method : SongReader.class.getDeclaredMethods()) {
            if (Modifier.isPublic(method.getModifiers())) {
                faceNames.add(method.getName());
            }
        }
        List<Class<?>> all = new ArrayList<>(Arrays.asList(SongReader.class.getDeclaredClasses()));
        if (all.size() + 1 > 12) {
            complain("too many classes: " + all.size());
        }
        all.add(SongReader.class);
        for (Class<?> one : all) {
            if (one != SongReader.class && !Modifier.isStatic(one.getModifiers())) {
                complain(one + " is not static");
            }
            int fields = 0;
            for (Field field : one.getDeclaredFields()) {
                fields += Modifier.isStatic(field.getModifiers()) ? 0 : 1;
                if (Modifier.isStatic(field.getModifiers()) && !Modifier.isFinal(field.getModifiers())) {
                    complain(field + " is static and not final");
                }
            }
            if (fields > 20) {
                complain(one + " has " + fields + " fields");
            }
            for (Method method : one.getDeclaredMethods()) {
                if (method.getParameterCount() > 7) {
                    complain(method + " takes too many");
                }
                if (!Modifier.isPublic(method.getModifiers()) && faceNames.contains(method.getName())) {
                    complain(method + " bears the name of a public one");
                }
            }
        }
    }

    private static void checkWords() throws IOException {
        String text = Files.readString(SOURCE, StandardCharsets.ISO_8859_1);
        String code = text.replaceAll("(?s)/\\*.*?\\*/", " ").replaceAll("//[^\\n]*", " ");
        String[] words = {"throw", "throws", "try", "catch", "synchronized", "assert", "package", "import", "volatile",
            "double", "float", "Object", "lambda", "->", "::", "Exact", "getClass", "hashCode", "equals", "toString",
            "record", "sealed", "var", "native", "Random", "nanoTime", "currentTimeMillis", "Thread", "protected"};
        for (String word : words) {
            boolean letters = Character.isLetter(word.charAt(0));
            if (Pattern.compile(letters ? "\\b" + word + "\\b" : Pattern.quote(word)).matcher(code).find()) {
                complain("the code has the word " + word);
            }
        }
        Set<String> library = new TreeSet<>();
        Matcher calls = Pattern.compile("\\b(Math|System|Arrays|Integer|Long|String|StringBuilder)\\.(\\w+)").matcher(code);
        while (calls.find()) {
            library.add(calls.group());
        }
        library.removeAll(Arrays.asList("Math.max", "Math.min", "Math.abs", "System.arraycopy"));
        if (!library.isEmpty()) {
            complain("the code uses " + library);
        }
        checkMethodLengths(code);
    }

    private static void checkMethodLengths(String code) {
        int since = 0;
        String[] lines = code.split("\n");
        for (int i = 0; i < lines.length; i++) {
            if (lines[i].matches("( {4}| {8})[a-zA-Z].*\\) \\{")) {
                since = i;
            }
            if (lines[i].matches("( {4}| {8})\\}") && since > 0 && i - since > 60) {
                complain("a method of " + (i - since) + " lines: " + lines[since]);
            }
        }
    }

    /** The objects and arrays of one reader, each once, with how many fields or elements it has. */
    private static Map<Object, Integer> partsOf(Object whole) throws IllegalAccessException {
        Map<Object, Integer> parts = new IdentityHashMap<>();
        List<Object> open = new ArrayList<>(List.of(whole));
        while (!open.isEmpty()) {
            Object one = open.remove(open.size() - 1);
            if (parts.containsKey(one)) {
                continue;
            }
            if (one.getClass().isArray()) {
                parts.put(one, Array.getLength(one));
                for (int i = 0; one instanceof Object[] && i < Array.getLength(one); i++) {
                    open.add(Array.get(one, i));
                }
                continue;
            }
            int fields = 0;
            for (Field field : one.getClass().getDeclaredFields()) {
                if (!Modifier.isStatic(field.getModifiers())) {
                    fields++;
                    field.setAccessible(true);
                    if (!field.getType().isPrimitive()) {
                        open.add(field.get(one));
                    }
                }
            }
            parts.put(one, fields);
        }
        return parts;
    }

    private static void checkRoom() throws IllegalAccessException {
        SongReader x = new SongReader();
        Map<Object, Integer> before = partsOf(x);
        int room = 0;
        for (int size : before.values()) {
            room += size;
        }
        System.out.println("an object: " + before.size() + " objects and arrays, " + room + " fields and elements");
        if (room > ROOM) {
            complain("an object takes " + room + " fields and elements");
        }
        playAll(x);
        Map<Object, Integer> after = partsOf(x);
        after.keySet().removeIf(before::containsKey);
        if (!after.isEmpty()) {
            complain("calls made " + after.size() + " parts anew");
        }
    }

    private static void playAll(SongReader x) {
        SongWriter setup = new SongWriter().start(2, 1).lengths(1, 1, 1).values(0, 9, false, 1, 0, 1).posts(1, 0, 8)
            .classes(0, 0, 0).put(1, 1);
        for (int i = 0; i < 4; i++) {
            int from = x.taped();
            SongWriter.lay(x, i == 0 ? setup.bytes() : SongWriter.many(20, 201));
            x.page(from, 0, 0, 1, i, false);
        }
        x.harm(3, 0);
        x.end(x.taped());
        if (x.read() != 32) {
            complain("the song does not play");
        }
        x.sum(0);
        x.sample(1, 1);
        x.look(3);
    }

    /** No call throws, whatever it is given. */
    private static void checkAnyArguments() {
        int[] numbers = {0, 1, -1, 2, 7, 8, 20, 27, 28, 255, 5999, 6000, 6001, Integer.MAX_VALUE, Integer.MIN_VALUE};
        Random random = new Random(5);
        for (int round = 0; round < 10000; round++) {
            SongReader x = new SongReader();
            // Some begin with a TAPE that is nearly full; all stay below the 512 calls that are promised.
            for (int i = 0; round % 3 == 0 && i < 295; i++) {
                x.feed(i, round, 0x4f676753, 0, 0);
            }
            for (int call = 0; call < 12; call++) {
                int a = numbers[random.nextInt(numbers.length)];
                int b = numbers[random.nextInt(numbers.length)];
                callSome(x, random.nextInt(12), a, b, random);
                if (x.taped() < 0 || x.taped() > 6000) {
                    complain("the TAPE has " + x.taped());
                }
            }
        }
    }

    private static void callSome(SongReader x, int which, int a, int b, Random random) {
        switch (which) {
            case 0 -> x.end(a);
            case 1 -> x.harm(a, b);
            case 2 -> x.page(a, b, random.nextLong(), a, b, random.nextBoolean());
            case 3 -> x.read();
            case 4 -> x.sample(a, b);
            case 5 -> x.look(a);
            case 6 -> x.sum(a);
            case 7 -> x.page(Math.max(0, x.taped() - random.nextInt(40)), b, a, 1, b, false);
            default -> {
                for (int i = random.nextInt(15); i >= 0; i--) {
                    x.feed(a, b, random.nextInt(), random.nextInt(), random.nextInt());
                }
            }
        }
    }
}
