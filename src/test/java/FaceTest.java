import java.lang.reflect.Constructor;
import java.lang.reflect.Method;
import java.lang.reflect.Modifier;
import java.util.ArrayList;
import java.util.Arrays;
import java.util.Collections;
import java.util.List;
import java.util.TreeSet;

/** The class shows what the document's face shows, and no more. */
public final class FaceTest {
    private static final String[] FACE = {
        "int best()", "int bind(int)", "int buy(int)", "int cast(int)", "int cross(int,int)", "int drop()",
        "int follow(int)", "int join(int)", "int latch(int)", "int left(int)", "int many(int)", "int needs(int)",
        "int ofLoop(int,int)", "int ofPattern(int,int)", "int ofRun(int,int)", "int on(boolean,int)", "int over()",
        "int pattern(int)", "int slip()", "int together(int,boolean)", "int turn()", "int undo()", "int work(boolean)",
        "int would(int)", "double width(boolean)", "java.lang.String seen(boolean)", "long digest()"
    };

    private FaceTest() {
    }

    private static String types(Class<?>[] types) {
        List<String> names = new ArrayList<>();
        for (Class<?> type : types) {
            names.add(type.getName());
        }
        return String.join(",", names);
    }

    public static void main(String[] args) {
        TreeSet<String> due = new TreeSet<>(Arrays.asList(FACE));
        TreeSet<String> got = new TreeSet<>();
        TreeSet<String> hidden = new TreeSet<>();
        TreeSet<String> shown = new TreeSet<>();
        for (Method method : Knitstead.class.getDeclaredMethods()) {
            if (Modifier.isPublic(method.getModifiers())) {
                got.add(method.getReturnType().getName() + " " + method.getName()
                    + "(" + types(method.getParameterTypes()) + ")");
                shown.add(method.getName());
            } else {
                Check.due(method + " is private", true, Modifier.isPrivate(method.getModifiers()));
                hidden.add(method.getName());
            }
        }
        Check.due("the face", due, got);
        Check.due("names both public and private", true, Collections.disjoint(hidden, shown));
        Constructor<?>[] constructors = Knitstead.class.getDeclaredConstructors();
        Check.due("the constructors", 1, constructors.length);
        Check.due("the constructor's parameters", "", types(constructors[0].getParameterTypes()));
        Check.due("the constructor is public", true, Modifier.isPublic(constructors[0].getModifiers()));
        Check.due("the class is final", true, Modifier.isFinal(Knitstead.class.getModifiers()));
        Arrays.stream(Knitstead.class.getDeclaredFields())
            .forEach(field -> Check.due(field + " is private", true, Modifier.isPrivate(field.getModifiers())));
        Check.end();
    }
}
