import java.lang.reflect.Constructor;
import java.lang.reflect.Field;
import java.lang.reflect.Member;
import java.lang.reflect.Method;
import java.lang.reflect.Modifier;
import java.util.ArrayList;
import java.util.Arrays;
import java.util.List;
import java.util.Set;
import java.util.TreeSet;

/** "The public face" of the document, member by member, and what LANGUAGE.md says of members (rules 1, 2, 3, 5, 11). */
public final class FaceTest {
    private static final String[] FACE = {
        "int feed(int,int,int,int,int)", "int text(int)", "int fault(int)", "int named(int)", "int person(int,int)", "int tally(int,int)",
        "int steep(int,int)", "int entry(int)", "int beside(int,int,int)", "int crowd(int,int)", "int order(int,int)", "int soon(int)",
        "long law(int,int,int)", "int walk(int,int)", "boolean carry(int,int)", "int right(int,int)", "int go(int)", "int ahead(int,int,int)",
        "int there(int,int)", "int highest(int)", "int climbs(int,int)", "int level(int)", "int ease(int,int)", "int way(int,int,int)",
        "int meet(int,int,int)", "int steepest(int)", "int wall()", "int rests(int,int,int)", "int rest(int,int,int,int)", "long sure(int,int)",
        "int note(int,int,int,boolean)", "int strike(int)", "boolean known(int)", "int hads(int,int)", "int ask(int,int,int)",
        "int chance(int,int,int,int)", "int tried(int,int,int)", "int undo()", "int keep()", "int back()", "int count(int)"
    };
    private static final Set<Class<?>> CONSTANTS = Set.of(int.class, long.class, boolean.class, char.class, String.class, int[].class, long[].class,
        char[].class, byte[].class);

    public static void main(String[] args) throws ReflectiveOperationException {
        Class<?> face = StairCount.class;
        Due.is("public, final, without a package", Modifier.isPublic(face.getModifiers()) && Modifier.isFinal(face.getModifiers())
            && face.getPackageName().isEmpty() && face.getSuperclass() == Object.class && face.getInterfaces().length == 0, true);
        members(face);
        constants(face);
        thrown(face);
        for (Class<?> one : allWithin(face)) {
            withoutFaceNames(one);
            fields(one);
        }
        Due.end();
    }

    private static void say(String what, boolean holds) {
        Due.is(what, holds, true);
    }

    private static void members(Class<?> face) {
        Set<String> seen = new TreeSet<>();
        for (Method method : face.getDeclaredMethods()) {
            if (!Modifier.isPrivate(method.getModifiers())) {
                say(method + " is public and of an object", method.getModifiers() == Modifier.PUBLIC);
                String types = String.join(",", Arrays.stream(method.getParameterTypes()).map(Class::getName).toList());
                seen.add(method.getReturnType() + " " + method.getName() + "(" + types + ")");
            }
        }
        for (String due : FACE) {
            say(due + " is there", seen.remove(due));
        }
        say("nothing more is: " + seen, seen.isEmpty());
        Constructor<?>[] made = face.getDeclaredConstructors();
        say("one public constructor without numbers", made.length == 1 && made[0].getModifiers() == Modifier.PUBLIC && made[0].getParameterCount() == 0);
    }

    private static void constants(Class<?> face) throws ReflectiveOperationException {
        for (Field field : face.getDeclaredFields()) {
            say(field + " is private", Modifier.isPrivate(field.getModifiers()) || field.getName().equals("NONE"));
        }
        Field none = face.getDeclaredField("NONE");
        say("NONE is a public constant", none.getModifiers() == (Modifier.PUBLIC | Modifier.STATIC | Modifier.FINAL) && none.getType() == int.class);
        Due.is("NONE", StairCount.NONE, -1);
    }

    private static void thrown(Class<?> face) {
        for (Method method : face.getDeclaredMethods()) {
            String types = Arrays.toString(method.getExceptionTypes());
            String due = method.getName().equals("person")
                ? "[class java.lang.IndexOutOfBoundsException, class java.util.NoSuchElementException]" : "[]";
            say(method.getName() + " throws " + types, types.equals(due));
        }
    }

    private static List<Class<?>> allWithin(Class<?> one) {
        List<Class<?>> all = new ArrayList<>(List.of(one));
        for (Class<?> inside : one.getDeclaredClasses()) {
            int how = inside.getModifiers();
            say(inside + " is static, private or package-visible", Modifier.isStatic(how) && !Modifier.isPublic(how) && !Modifier.isProtected(how));
            all.addAll(allWithin(inside));
        }
        say("some twelve classes", all.size() <= 12);
        return all;
    }

    /** Rule 1: "No private method bears the name of a public one." Rule 11: "at most seven parameters". */
    private static void withoutFaceNames(Class<?> one) {
        for (Method method : one.getDeclaredMethods()) {
            boolean ofFace = one == StairCount.class && Modifier.isPublic(method.getModifiers());
            say(method + " bears no name of the face", ofFace || Arrays.stream(FACE).noneMatch(due -> due.contains(" " + method.getName() + "(")));
            say(method + " takes at most seven", method.getParameterCount() <= 7);
        }
    }

    /** Rule 5: "Static fields are final". Rule 3: arrays of two dimensions of numbers alone. Rule 11: some twenty fields. */
    private static void fields(Class<?> one) {
        int ofObjects = 0;
        for (Field field : one.getDeclaredFields()) {
            if (isStatic(field)) {
                say(field + " is a constant", Modifier.isFinal(field.getModifiers()) && CONSTANTS.contains(field.getType()));
            } else {
                ofObjects++;
                Class<?> inner = field.getType().isArray() ? field.getType().getComponentType() : int.class;
                say(field + " is of one dimension, or of numbers", !inner.isArray() || inner.getComponentType().isPrimitive());
            }
        }
        say(one + " has some twenty fields", ofObjects <= 20);
    }

    private static boolean isStatic(Member member) {
        return Modifier.isStatic(member.getModifiers());
    }
}
