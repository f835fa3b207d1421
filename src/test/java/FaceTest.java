import java.lang.reflect.Constructor;
import java.lang.reflect.Field;
import java.lang.reflect.Member;
import java.lang.reflect.Method;
import java.lang.reflect.Modifier;
import java.util.Arrays;
import java.util.Set;
import java.util.TreeSet;

/** The public face is the document's, and no other member can be seen (LANGUAGE.md, rules 1, 2, 5, 11). */
public final class FaceTest {
    private static final Check CHECK = new Check();
    private static final Set<String> FACE = new TreeSet<>(Arrays.asList(
        "int act(int,int,int)", "boolean rests(int,int)", "boolean ban(int,int,boolean)",
        "int judge(int,int,int)", "int gaps(int,int)", "int best()", "int bestAt(int)",
        "boolean load(int,int)", "boolean share(int,int,int)", "boolean exposed(int,int)",
        "int part(int,int)", "boolean slack(int,int)", "int gone(int)", "int town(int,int,int)",
        "boolean way(int,int,int)", "int hours(int,int)", "int route()", "int routeAt(int,int)",
        "int took(int,int,int)", "int foretold(int,int,int)", "int count(int)"));

    public static void main(String[] args) throws NoSuchFieldException {
        CHECK.about("the face");
        Class<?> face = CircusRoad.class;
        CHECK.that("the class is public and final",
            Modifier.isPublic(face.getModifiers()) && Modifier.isFinal(face.getModifiers()));
        CHECK.that("it has no package", face.getPackageName().isEmpty());
        CHECK.that("it has one constructor, public and without parameters", hasItsConstructor(face));
        CHECK.that("NONE is public, static, final and an int", isConstant(face.getField("NONE")));
        methods(face);
        fields(face);
        classes(face);
        CHECK.end();
    }

    private static boolean hasItsConstructor(Class<?> face) {
        Constructor<?>[] all = face.getDeclaredConstructors();
        return all.length == 1 && Modifier.isPublic(all[0].getModifiers()) && all[0].getParameterCount() == 0;
    }

    private static boolean isConstant(Field field) {
        int is = field.getModifiers();
        return Modifier.isPublic(is) && Modifier.isStatic(is) && Modifier.isFinal(is) && field.getType() == int.class;
    }

    private static void methods(Class<?> face) {
        Set<String> seen = new TreeSet<>();
        Set<String> publicNames = new TreeSet<>();
        for (Method method : face.getDeclaredMethods()) {
            if (Modifier.isPublic(method.getModifiers())) {
                seen.add(told(method));
                publicNames.add(method.getName());
                CHECK.that(method + " is of the object", !Modifier.isStatic(method.getModifiers()));
            } else {
                hidden(method);
            }
        }
        CHECK.that("the public methods are " + seen, seen.equals(FACE));
        for (Class<?> type : allClasses(face)) {
            for (Method method : type.getDeclaredMethods()) {
                boolean isOfTheFace = type == face && Modifier.isPublic(method.getModifiers());
                CHECK.that(method + " bears a public name", isOfTheFace || !publicNames.contains(method.getName()));
                CHECK.that(method + " has more than seven parameters", method.getParameterCount() <= 7);
            }
        }
    }

    private static String told(Method method) {
        StringBuilder text = new StringBuilder(method.getReturnType().getName());
        text.append(' ').append(method.getName()).append('(');
        for (Class<?> type : method.getParameterTypes()) {
            text.append(text.charAt(text.length() - 1) == '(' ? "" : ",").append(type.getName());
        }
        return text.append(')').toString();
    }

    private static void hidden(Member member) {
        CHECK.that(member + " can be seen", Modifier.isPrivate(member.getModifiers()) || member.isSynthetic());
    }

    private static void fields(Class<?> face) {
        for (Field field : face.getDeclaredFields()) {
            if (!field.getName().equals("NONE")) {
                hidden(field);
            }
        }
        for (Class<?> type : allClasses(face)) {
            int ofTheObject = 0;
            for (Field field : type.getDeclaredFields()) {
                boolean isStatic = Modifier.isStatic(field.getModifiers());
                ofTheObject += isStatic ? 0 : 1;
                CHECK.that(field + " is static, not final", !isStatic || Modifier.isFinal(field.getModifiers()));
            }
            CHECK.that(type + " has more than twenty fields", ofTheObject <= 20);
        }
    }

    private static Class<?>[] allClasses(Class<?> face) {
        Class<?>[] inside = face.getDeclaredClasses();
        Class<?>[] all = Arrays.copyOf(inside, inside.length + 1);
        all[inside.length] = face;
        return all;
    }

    private static void classes(Class<?> face) {
        CHECK.that("there are more than twelve classes", allClasses(face).length <= 12);
        for (Class<?> type : face.getDeclaredClasses()) {
            int is = type.getModifiers();
            CHECK.that(type + " isn't static", Modifier.isStatic(is));
            CHECK.that(type + " can be seen", !Modifier.isPublic(is) && !Modifier.isProtected(is));
        }
    }
}
