import java.lang.reflect.Constructor;
import java.lang.reflect.Field;
import java.lang.reflect.Method;
import java.lang.reflect.Modifier;
import java.util.TreeSet;

/** Promise 1, a new object; and that the class has the document's face and nothing else to be seen. */
public final class FaceTest {
    private static final String FACE = "at(int)char clear()void count(int)int depth(int)int"
        + " has(char,int)boolean join(boolean)boolean length()int mark(boolean)boolean node(int)int"
        + " nodes()int not()boolean outcome()int pair(char,char,boolean)boolean read()int"
        + " reduce(int,int)int remember(boolean)void size(int)boolean type(char)boolean"
        + " write(char)boolean";

    public static void main(String[] args) {
        Due due = new Due("FaceTest");
        newObject(due);
        objectsApart(due);
        face(due);
        due.end();
    }

    private static void newObject(Due due) {
        due.is("new: length()", new ShrinkDesk().length(), 0);
        due.is("new: at(0)", new ShrinkDesk().at(0), 0);
        due.is("new: outcome()", new ShrinkDesk().outcome(), 0);
        due.is("new: nodes()", new ShrinkDesk().nodes(), -1);
        due.is("new: node(0)", new ShrinkDesk().node(0), -1);
        due.is("new: depth(0)", new ShrinkDesk().depth(0), -1);
        due.is("new: counts", Hand.counts(new ShrinkDesk()), "0 0 0 0 0");
        due.is("new: not()", new ShrinkDesk().not(), false);
        due.is("new: join(true)", new ShrinkDesk().join(true), false);
        due.is("new: mark(false)", new ShrinkDesk().mark(false), false);
        due.is("new: mark(true)", new ShrinkDesk().mark(true), false);
        due.is("new: read()", new ShrinkDesk().read(), -1);
        due.is("new: reduce(0, 9)", new ShrinkDesk().reduce(0, 9), -2);
        ShrinkDesk desk = Hand.desk("aaa", "ha1");
        desk.reduce(0, 400);
        due.is("new: remembering is on", desk.count(4), desk.count(0));
    }

    private static void objectsApart(Due due) {
        ShrinkDesk one = Hand.desk("ab", "ha1", "A=ab;");
        ShrinkDesk other = new ShrinkDesk();
        one.reduce(0, 400);
        due.is("another object: length()", other.length(), 0);
        due.is("another object: nodes()", other.nodes(), -1);
        due.is("another object: counts", Hand.counts(other), "0 0 0 0 0");
        due.is("another object: mark", other.mark(false), false);
    }

    private static void face(Due due) {
        TreeSet<String> methods = new TreeSet<>();
        for (Method method : ShrinkDesk.class.getDeclaredMethods()) {
            if (!Modifier.isPrivate(method.getModifiers()) && !method.isSynthetic()) {
                due.is(method.getName() + " is public", Modifier.isPublic(method.getModifiers()), true);
                methods.add(told(method));
            }
        }
        due.is("methods", String.join(" ", methods), FACE);
        due.is("constructors", ShrinkDesk.class.getDeclaredConstructors().length, 1);
        for (Constructor<?> constructor : ShrinkDesk.class.getDeclaredConstructors()) {
            due.is("constructor is public", Modifier.isPublic(constructor.getModifiers()), true);
            due.is("constructor's parameters", constructor.getParameterCount(), 0);
        }
        for (Field field : ShrinkDesk.class.getDeclaredFields()) {
            due.is(field.getName() + " is private", Modifier.isPrivate(field.getModifiers()), true);
        }
        due.is("final", Modifier.isFinal(ShrinkDesk.class.getModifiers()), true);
        due.is("public", Modifier.isPublic(ShrinkDesk.class.getModifiers()), true);
    }

    private static String told(Method method) {
        StringBuilder parameters = new StringBuilder();
        for (Class<?> parameter : method.getParameterTypes()) {
            parameters.append(parameters.length() == 0 ? "" : ",").append(parameter.getName());
        }
        return method.getName() + "(" + parameters + ")" + method.getReturnType().getName();
    }
}
