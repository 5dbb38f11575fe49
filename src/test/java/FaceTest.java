import java.io.IOException;
import java.lang.reflect.Constructor;
import java.lang.reflect.Field;
import java.lang.reflect.Method;
import java.lang.reflect.Modifier;
import java.nio.charset.StandardCharsets;
import java.nio.file.Files;
import java.nio.file.Path;
import java.util.ArrayList;
import java.util.Arrays;
import java.util.List;
import java.util.Set;
import java.util.TreeSet;
import java.util.regex.Matcher;
import java.util.regex.Pattern;

/** The public face, and those rules of LANGUAGE.md that the class or its text shows. */
public final class FaceTest {
    private static final String[] FACE = {
        "int feed(int,int,int,int,int)", "int end(int)", "int tell()", "int turn(int,int)", "int play(int,int)",
        "int answer()", "int put(int,long)", "int reckon(int,int,int,int)", "int undo()", "int keep(int)",
        "int back(int)", "int grid(int,int)", "int enter(int,int,long)", "int multiply(int)", "int invert()",
        "long entry(int,int,int)", "long determinant()", "int shape(int)", "long solution(int)",
        "int roots(int,int)", "long common(int)", "long mended(int)", "long mendedAt(long)", "int agrees(int)",
        "long full(int,int)", "long boards(int)", "int game(int)", "long times(long,long)", "long inverse(long)",
        "long root(long)", "long power(long,long)", "long order(long)", "int level(long,int)", "long least(long)",
        "int trace(long,int)", "long half(long)", "long solve(long,long,int)", "int log(long,long)",
        "long place(int)", "long at(long,int)", "int worth(int,int)", "int cell(int,int,int)", "long total()",
        "int moves(int)", "int move(int,int,int)", "int sets(int,int)", "int count(int)"
    };
    private static final String[] BANNED = {
        "\\bthrow\\b", "\\btry\\b", "\\bcatch\\b", "\\bsynchronized\\b", "\\bassert\\b", "->", "::",
        "\\bimport\\b", "\\bpackage\\b", "\\bstatic\\s*\\{", "\\bprotected\\b", "\\bvar\\b", "\\bObject\\b",
        "MAX_VALUE", "MIN_VALUE", "\\bfloat\\b", "\\bdouble\\b", "Exact\\b", "\\bSystem\\b", "hashCode", "\\bequals\\b"
    };
    private static int wrong = 0;

    public static void main(String[] args) throws IOException {
        checkFace();
        checkNested();
        String text = Files.readString(Path.of("src/main/java/TurnField.java"), StandardCharsets.ISO_8859_1);
        checkText(text);
        checkMethods(text.split("\n"));
        System.out.println(wrong == 0 ? "the face is as told" : wrong + " faults of the face");
        if (wrong != 0) {
            System.exit(1);
        }
    }

    private static void blame(String what) {
        wrong++;
        System.out.println(what);
    }

    private static void checkFace() {
        Set<String> want = new TreeSet<>(Arrays.asList(FACE));
        Set<String> got = new TreeSet<>();
        for (Method method : TurnField.class.getDeclaredMethods()) {
            if (Modifier.isPublic(method.getModifiers())) {
                StringBuilder sign = new StringBuilder(method.getReturnType().getName());
                sign.append(' ').append(method.getName()).append('(');
                for (Class<?> type : method.getParameterTypes()) {
                    sign.append(sign.charAt(sign.length() - 1) == '(' ? "" : ",").append(type.getName());
                }
                got.add(sign.append(')').toString());
            } else if (!Modifier.isPrivate(method.getModifiers()) && !method.isSynthetic()) {
                blame("neither public nor private: " + method);
            }
        }
        if (!want.equals(got)) {
            blame("the face is " + got);
        }
        for (Field one : TurnField.class.getDeclaredFields()) {
            boolean none = one.getName().equals("NONE");
            if (none ? !Modifier.isPublic(one.getModifiers()) : !Modifier.isPrivate(one.getModifiers())) {
                blame("field " + one);
            }
        }
        Constructor<?>[] makers = TurnField.class.getDeclaredConstructors();
        if (makers.length != 1 || !Modifier.isPublic(makers[0].getModifiers()) || makers[0].getParameterCount() != 0) {
            blame("constructors");
        }
        if (!Modifier.isFinal(TurnField.class.getModifiers())) {
            blame("not final");
        }
    }

    private static void checkNested() {
        Set<String> names = new TreeSet<>();
        for (String sign : FACE) {
            names.add(sign.substring(sign.indexOf(' ') + 1, sign.indexOf('(')));
        }
        List<Class<?>> all = new ArrayList<>(Arrays.asList(TurnField.class.getDeclaredClasses()));
        all.add(TurnField.class);
        if (all.size() > 12) {
            blame(all.size() + " classes");
        }
        for (Class<?> one : all) {
            if (one != TurnField.class && !Modifier.isStatic(one.getModifiers())) {
                blame("not static: " + one);
            }
            int fields = 0;
            for (Field field : one.getDeclaredFields()) {
                fields += Modifier.isStatic(field.getModifiers()) ? 0 : 1;
                if (Modifier.isStatic(field.getModifiers()) && !Modifier.isFinal(field.getModifiers())) {
                    blame("static, not final: " + field);
                }
            }
            if (fields > 20) {
                blame(fields + " fields in " + one);
            }
            for (Method method : one.getDeclaredMethods()) {
                boolean ofFace = one == TurnField.class && Modifier.isPublic(method.getModifiers());
                if (!ofFace && names.contains(method.getName())) {
                    blame("bears a public name: " + method);
                }
                if (method.getParameterCount() > 7) {
                    blame("parameters: " + method);
                }
            }
        }
    }

    private static void checkText(String text) {
        for (char sign : text.toCharArray()) {
            if (sign > 126) {
                blame("sign " + (int) sign);
            }
        }
        String code = text.replaceAll("(?s)/\\*.*?\\*/", "").replaceAll("//[^\n]*", "").replaceAll("\"[^\"\n]*\"", "\"\"");
        for (String banned : BANNED) {
            if (Pattern.compile(banned).matcher(code).find()) {
                blame("banned: " + banned);
            }
        }
        Matcher calls = Pattern.compile("\\b(Integer|Long|Math|Arrays|String|List)\\.(\\w+)").matcher(code);
        Set<String> allowed = Set.of("Integer.bitCount", "Long.bitCount", "Math.min", "Math.max");
        while (calls.find()) {
            if (!allowed.contains(calls.group())) {
                blame("library: " + calls.group());
            }
        }
    }

    /** A method begins at a line of four or eight blanks that opens a block behind its parameters. */
    private static void checkMethods(String[] lines) {
        Pattern head = Pattern.compile("^( {4}| {8})\\w[\\w\\[\\]. ]+\\([^;=]*\\) \\{$");
        for (int i = 0; i < lines.length; i++) {
            Matcher matcher = head.matcher(lines[i]);
            if (matcher.find() && !lines[i].contains("if (") && !lines[i].contains("for (")) {
                int end = i;
                while (end < lines.length && !lines[end].equals(matcher.group(1) + "}")) {
                    end++;
                }
                if (end - i > 60) {
                    blame("long: " + lines[i]);
                }
            }
        }
    }
}
