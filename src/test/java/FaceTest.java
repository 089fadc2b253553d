import java.lang.reflect.Constructor;
import java.lang.reflect.Field;
import java.lang.reflect.Method;
import java.lang.reflect.Modifier;
import java.util.Set;
import java.util.TreeSet;

/** The public face is the document's, and nothing else can be seen from outside. */
public final class FaceTest {
    private static final String FACE = """
        begin()int
        can(int)boolean
        cheapest(int,int,int,int)int
        clear()int
        clock(int)int
        come(int)int
        comes(int,int)int
        count(int)int
        crossing(int)int
        crossings()int
        cut()int
        failed()boolean
        far(int)int
        fault()int
        feed(int,int,int,int,int)int
        form(int,int,int,int)int
        happening(int,int)int
        line(int,int)int
        lost(int)int
        name(int)int
        newer(int,int)int
        ordered(int,int)boolean
        pages(int,int)int
        program(int)int
        record()int
        shows(int,int)int
        sorts(int)int
        spoilt()boolean
        step(int,int,int)int
        stuck(int,int,int)int
        tell(int)int
        thing(int)int
        told(int)int
        turn(int,int)int
        use(int,boolean)boolean
        why(int,int)int
        windows()int
        worst(int,int)int
        """;

    public static void main(String[] args) {
        Due due = new Due();
        Set<String> face = new TreeSet<>();
        Set<String> names = new TreeSet<>();
        for (Method method : ClickOrders.class.getDeclaredMethods()) {
            if (Modifier.isPublic(method.getModifiers())) {
                StringBuilder types = new StringBuilder();
                for (Class<?> type : method.getParameterTypes()) {
                    types.append(types.length() == 0 ? "" : ",").append(type.getSimpleName());
                }
                face.add(method.getName() + "(" + types + ")" + method.getReturnType().getSimpleName());
                names.add(method.getName());
            }
        }
        due.is("the face is the document's", face.equals(new TreeSet<>(FACE.lines().toList())), true);
        for (Method method : ClickOrders.class.getDeclaredMethods()) {
            boolean isPublic = Modifier.isPublic(method.getModifiers());
            due.is(method.getName() + " is public or private", isPublic || Modifier.isPrivate(method.getModifiers()), true);
            due.is(method.getName() + " bears no name of the face", isPublic || !names.contains(method.getName()), true);
        }
        for (Field field : ClickOrders.class.getDeclaredFields()) {
            boolean isNone = field.getName().equals("NONE");
            due.is(field.getName() + " is NONE or private", isNone || Modifier.isPrivate(field.getModifiers()), true);
        }
        Constructor<?>[] made = ClickOrders.class.getConstructors();
        due.is("one constructor", made.length, 1);
        due.is("it takes nothing", made.length == 1 && made[0].getParameterCount() == 0, true);
        due.is("the class is final", Modifier.isFinal(ClickOrders.class.getModifiers()), true);
        due.is("NONE", ClickOrders.NONE, -1);
        due.ends();
    }
}
