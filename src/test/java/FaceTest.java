import java.io.IOException;
import java.lang.management.ManagementFactory;
import java.lang.reflect.Constructor;
import java.lang.reflect.Field;
import java.lang.reflect.Method;
import java.lang.reflect.Modifier;
import java.nio.file.Files;
import java.nio.file.Path;
import java.util.Arrays;
import java.util.Set;
import java.util.TreeSet;
import java.util.regex.Matcher;
import java.util.regex.Pattern;

/** The public face, some rules of LANGUAGE.md that can be looked at, and the room that calls take. */
public final class FaceTest {
    private static final Due DUE = new Due();
    private static final String[] FACE = {
        "int feed(int,int,int,int,int)", "int text(int)", "int fault(int)", "int named(int,int)", "int tub(int,int)",
        "int knight(int,int)", "int atEase(int,int)", "long law(int,int,int)", "int add(int,int)",
        "int pour(int,int,int)", "boolean sit(int,int)", "boolean rise(int)", "int go(int)", "int ahead(int,int,int)",
        "int cools(int,int)", "int flinches(int)", "int order(int)", "int addFor(int,int)", "int coal(int)",
        "int together(int,int)", "int match(int)", "int game(int,int,int)", "int tells(int)", "int rests(int,int)",
        "int rest(int,int,int)", "long steady(int,int)", "int see(int,int,int,boolean)", "int strike(int)",
        "boolean known(int)", "int borne(int)", "int ask(int,int)", "int chance(int,int,int)", "int tried(int,int,int)",
        "int undo()", "int keep()", "int back()", "int count(int)"};

    public static void main(String[] args) throws IOException {
        face();
        names();
        source();
        room();
        DUE.end();
    }

    private static void face() {
        Set<String> found = new TreeSet<>();
        for (Method method : BathOrders.class.getDeclaredMethods()) {
            if (!Modifier.isPrivate(method.getModifiers())) {
                DUE.yes(method + " is public", Modifier.isPublic(method.getModifiers()));
                DUE.no(method + " is static", Modifier.isStatic(method.getModifiers()));
                found.add(signature(method));
            }
        }
        Set<String> due = new TreeSet<>(Arrays.asList(FACE));
        if (!found.equals(due)) {
            System.out.println("the face is " + found);
        }
        DUE.yes("the face is the document's", found.equals(due));
        DUE.yes("the class is final", Modifier.isFinal(BathOrders.class.getModifiers()));
        DUE.yes("the class is public", Modifier.isPublic(BathOrders.class.getModifiers()));
        Constructor<?>[] constructors = BathOrders.class.getDeclaredConstructors();
        DUE.same("one constructor", 1, constructors.length);
        DUE.yes("it is public", Modifier.isPublic(constructors[0].getModifiers()));
        for (Field field : BathOrders.class.getDeclaredFields()) {
            boolean constant = field.getName().equals("NONE");
            DUE.yes(field + " is private", constant || Modifier.isPrivate(field.getModifiers()));
            DUE.yes(field + " is final if it is static", !Modifier.isStatic(field.getModifiers())
                || Modifier.isFinal(field.getModifiers()));
        }
        DUE.same("NONE", -1, BathOrders.NONE);
    }

    private static String signature(Method method) {
        StringBuilder text = new StringBuilder(method.getReturnType() + " " + method.getName() + "(");
        for (Class<?> type : method.getParameterTypes()) {
            text.append(text.charAt(text.length() - 1) == '(' ? "" : ",").append(type);
        }
        return text.append(')').toString();
    }

    private static void names() {
        Set<String> faceNames = new TreeSet<>();
        for (String one : FACE) {
            faceNames.add(one.substring(one.indexOf(' ') + 1, one.indexOf('(')));
        }
        Class<?>[] inside = BathOrders.class.getDeclaredClasses();
        DUE.yes("some twelve classes", inside.length <= 11);
        for (Class<?> one : inside) {
            DUE.yes(one + " is static", Modifier.isStatic(one.getModifiers()));
            for (Method method : one.getDeclaredMethods()) {
                DUE.no(method + " bears a name of the face", faceNames.contains(method.getName()));
                DUE.yes(method + " takes at most seven", method.getParameterCount() <= 7);
            }
            long fields = Arrays.stream(one.getDeclaredFields())
                .filter(field -> !Modifier.isStatic(field.getModifiers())).count();
            DUE.yes(one + " has some twenty fields", fields <= 20);
        }
        for (Method method : BathOrders.class.getDeclaredMethods()) {
            boolean hidden = Modifier.isPrivate(method.getModifiers());
            DUE.no(method + " bears a name of the face", hidden && faceNames.contains(method.getName()));
        }
    }

    private static void source() throws IOException {
        Path path = Path.of("src/main/java/BathOrders.java");
        String source = Files.readString(path);
        String bare = source.replaceAll("(?s)/\\*.*?\\*/", "").replaceAll("//[^\n]*", "")
            .replaceAll("\"[^\"]*\"", "\"\"");
        String[] forbidden = {"->", "::", "\\btry\\b", "\\bcatch\\b", "\\bfinally\\b", "\\bsynchronized\\b",
            "\\bassert\\b", "\\bwhile\\b", "Exact\\(", "\\bpackage\\b", "\\bnull\\b", "\\binstanceof\\b",
            "\\bSystem\\.(?!arraycopy)", "\\bMath\\.(?!min|max)"};
        for (String one : forbidden) {
            Matcher matcher = Pattern.compile(one).matcher(bare);
            DUE.no("the source has " + one, matcher.find());
        }
        Matcher imports = Pattern.compile("(?m)^import (.*);$").matcher(bare);
        while (imports.find()) {
            DUE.yes("import " + imports.group(1), imports.group(1).equals("java.util.NoSuchElementException"));
        }
        int start = 0;
        String[] lines = bare.split("\n", -1);
        for (int i = 0; i < lines.length; i++) {
            if (lines[i].matches(" {4,8}[a-zA-Z].*\\) .*\\{")) {
                start = i;
            }
            if (lines[i].matches(" {4,8}\\}")) {
                DUE.yes("the method at line " + start + " is short", i - start <= 60);
                start = i;
            }
        }
    }

    private static void room() {
        com.sun.management.ThreadMXBean bean =
            (com.sun.management.ThreadMXBean) ManagementFactory.getThreadMXBean();
        long thread = Thread.currentThread().getId();
        new BathOrders();
        String text = "knight a 40 3;knight b 60 5;tub t 10 50;tub u 20 60;sit a t 0;sit b u 0;can t 5 1;pipe t u 2;"
            + "flinch 50;seed 3;law rise 1;law ease heat<bears;law cool 1;";
        long before = bean.getThreadAllocatedBytes(thread);
        BathOrders x = new BathOrders();
        long made = bean.getThreadAllocatedBytes(thread);
        DUE.yes("an object takes little room: " + (made - before), made - before < 40000);
        Due.tell(x, text);
        made = bean.getThreadAllocatedBytes(thread);
        for (int i = 0; i < 20; i++) {
            x.ask(0, 0);
            x.borne(1);
            x.chance(5, 50, 0);
            x.tried(1, 0, 50);
            x.match(7);
            x.game(0, 90, 0);
            x.flinches(0);
            x.add(0, 1);
            x.undo();
            x.keep();
            x.back();
            x.go(1);
            Due.tell(x, text);
        }
        long used = bean.getThreadAllocatedBytes(thread) - made;
        DUE.yes("calls take no room: " + used, used < 4000);
    }
}
