import java.lang.reflect.Constructor;
import java.lang.reflect.Field;
import java.lang.reflect.Method;
import java.lang.reflect.Modifier;
import java.util.Set;
import java.util.TreeSet;

/** The public face is the document's, and nothing else of the class can be seen from outside. */
public final class FaceTest {
    private static int wrong = 0;

    public static void main(String[] args) {
        due("class", Modifier.toString(LabelChain.class.getModifiers()), "public final");
        due("members", seenMembers(), documentedMembers());
        due("BAD", LabelChain.BAD, -1);
        due("NONE", LabelChain.NONE, -2);
        due("nested classes", LabelChain.class.getDeclaredClasses().length, 0);
        privateNamesAreApart();
        staticFieldsAreNumbers();
        System.out.println(wrong == 0 ? "all answers are as due" : wrong + " answers are not as due");
        if (wrong != 0) {
            System.exit(1);
        }
    }

    private static void due(String what, Object got, Object want) {
        if (!got.equals(want)) {
            wrong++;
            System.out.println(what + " is " + got + ", due is " + want);
        }
    }

    private static Set<String> documentedMembers() {
        return new TreeSet<>(Set.of(
            "public static final int LabelChain.BAD",
            "public static final int LabelChain.NONE",
            "public LabelChain(int)",
            "public boolean LabelChain.weigh(int,int,int)",
            "public boolean LabelChain.weighCouple(int,int,int)",
            "public boolean LabelChain.bar(int,int,boolean)",
            "public boolean LabelChain.barCouple(int,int,boolean)",
            "public int LabelChain.allowed()",
            "public int LabelChain.best()",
            "public int LabelChain.label(int)",
            "public int LabelChain.bestCount()",
            "public int LabelChain.ranked(int)",
            "public int LabelChain.bestThrough(int,int)",
            "public long LabelChain.total()",
            "public long LabelChain.through(int,int)",
            "public long LabelChain.throughCouple(int,int)"));
    }

    private static Set<String> seenMembers() {
        Set<String> seen = new TreeSet<>();
        for (Field field : LabelChain.class.getDeclaredFields()) {
            if (!Modifier.isPrivate(field.getModifiers())) {
                seen.add(field.toString());
            }
        }
        for (Constructor<?> constructor : LabelChain.class.getDeclaredConstructors()) {
            if (!Modifier.isPrivate(constructor.getModifiers())) {
                seen.add(constructor.toString());
            }
        }
        for (Method method : LabelChain.class.getDeclaredMethods()) {
            if (!Modifier.isPrivate(method.getModifiers())) {
                seen.add(method.toString());
            }
        }
        return seen;
    }

    private static void privateNamesAreApart() {
        Set<String> names = new TreeSet<>();
        for (Method method : LabelChain.class.getDeclaredMethods()) {
            due("a second method " + method.getName(), names.add(method.getName()), true);
        }
    }

    private static void staticFieldsAreNumbers() {
        for (Field field : LabelChain.class.getDeclaredFields()) {
            if (Modifier.isStatic(field.getModifiers())) {
                boolean number = field.getType() == int.class || field.getType() == long.class;
                due(field + " a constant number", number && Modifier.isFinal(field.getModifiers()), true);
            }
        }
    }
}
