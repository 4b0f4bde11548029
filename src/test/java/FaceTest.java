import java.lang.reflect.Constructor;
import java.lang.reflect.Field;
import java.lang.reflect.Method;
import java.lang.reflect.Modifier;
import java.util.Set;
import java.util.TreeSet;

/** The face is the document's, and nothing else can be seen of the class. */
public final class FaceTest {
    public static void main(String[] args) {
        Set<String> want = new TreeSet<>(Set.of("int feed(long,int)", "int fill(int,int,int)", "int set(int,int)",
            "int cut(int)", "int take()", "int size(int)"));
        want.addAll(Set.of("int at(int,int)", "int pack(int,boolean)", "int unpack()", "int read()",
            "int told(int)", "int length(int,int)"));
        Set<String> got = new TreeSet<>();
        for (Method method : BlockPacker.class.getDeclaredMethods()) {
            if (!Modifier.isPrivate(method.getModifiers())) {
                Due.holds(method + " is public and not static",
                    Modifier.isPublic(method.getModifiers()) && !Modifier.isStatic(method.getModifiers()));
                StringBuilder types = new StringBuilder();
                for (Class<?> type : method.getParameterTypes()) {
                    types.append(types.length() > 0 ? "," : "").append(type.getName());
                }
                got.add(method.getReturnType() + " " + method.getName() + "(" + types + ")");
            }
        }
        Due.holds("the methods are " + want + ", not " + got, want.equals(got));

        Set<String> fields = new TreeSet<>();
        for (Field field : BlockPacker.class.getDeclaredFields()) {
            if (!Modifier.isPrivate(field.getModifiers())) {
                fields.add(Modifier.toString(field.getModifiers()) + " " + field.getName());
            }
        }
        Due.holds("the constants alone are seen, not " + fields, fields.equals(
            Set.of("public static final NONE", "public static final BAD", "public static final FULL")));

        Constructor<?>[] constructors = BlockPacker.class.getDeclaredConstructors();
        Due.same("constructors", constructors.length, 1);
        Due.same("parameters of the constructor", constructors[0].getParameterCount(), 0);
        Due.holds("the constructor is public", Modifier.isPublic(constructors[0].getModifiers()));
        Due.holds("the class is public and final", Modifier.isPublic(BlockPacker.class.getModifiers())
            && Modifier.isFinal(BlockPacker.class.getModifiers()));
        Due.same("NONE", BlockPacker.NONE, -1);
        Due.same("BAD", BlockPacker.BAD, -2);
        Due.same("FULL", BlockPacker.FULL, -3);
        Due.end();
    }
}
