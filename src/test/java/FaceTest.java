import java.lang.reflect.Constructor;
import java.lang.reflect.Field;
import java.lang.reflect.Method;
import java.lang.reflect.Modifier;
import java.util.Set;
import java.util.TreeSet;

/** The public face: the methods of the document with their signatures, and nothing else that can be seen. */
public final class FaceTest {
    private static final String[] FACE = {
        "int addCandle(char,int,int) IllegalArgumentException IllegalStateException",
        "int light(int) IndexOutOfBoundsException IllegalStateException UnsupportedOperationException",
        "int snuff(int) IndexOutOfBoundsException IllegalStateException",
        "int pour(int,int) IndexOutOfBoundsException IllegalArgumentException IllegalStateException"
            + " UnsupportedOperationException",
        "int setDraught(int) IllegalArgumentException",
        "int schedule(int,int,boolean) IllegalArgumentException IndexOutOfBoundsException IllegalStateException",
        "int unschedule(int) IndexOutOfBoundsException",
        "int pass(int) IllegalArgumentException",
        "int candles()",
        "char voice(int) IndexOutOfBoundsException",
        "int wax(int) IndexOutOfBoundsException",
        "int consumption(int) IndexOutOfBoundsException",
        "boolean isLit(int) IndexOutOfBoundsException",
        "int litCandles()",
        "int sounding(char) IllegalArgumentException",
        "int minutesLeft(int) IndexOutOfBoundsException",
        "int minutesLeftByBurning(int) IndexOutOfBoundsException",
        "int candleByWax(int) NoSuchElementException",
        "int events()",
        "int eventMinute(int) IndexOutOfBoundsException",
        "int eventCandle(int) IndexOutOfBoundsException",
        "boolean isLighting(int) IndexOutOfBoundsException",
        "int failedEvents()",
        "char failureReason() NoSuchElementException",
        "int time()",
        "int draught()",
        "int dish()",
        "int minutesUntilDark()",
        "int minutesUntilDarkByLeaps()",
        "int lastCandle() NoSuchElementException",
        "char loudestVoice() NoSuchElementException",
        "long addedWax()",
        "long addedWaxByParts()",
        "int burnt()",
        "double meanWax() ArithmeticException",
        "float litShare() ArithmeticException",
        "boolean isConsistent()",
        "int writeCandle(int) IndexOutOfBoundsException",
        "int writeEvents()",
        "char charAt(int) IndexOutOfBoundsException",
        "int type(char) IllegalStateException",
        "int run() IllegalArgumentException UnsupportedOperationException",
        "int errorPosition() NoSuchElementException",
        "int failedCommand() NoSuchElementException",
        "int undo() IllegalStateException",
        "int save()",
        "int restore() IllegalStateException",
    };

    private FaceTest() {
    }

    public static void main(String[] args) {
        Class<?> face = CandleConcert.class;
        Check.due("modifiers", Modifier.PUBLIC | Modifier.FINAL, face.getModifiers());
        Constructor<?>[] constructors = face.getDeclaredConstructors();
        Check.due("constructors", 1, constructors.length);
        Check.due("constructor", "public CandleConcert()", constructors[0].toString());
        for (Field field : face.getDeclaredFields()) {
            Check.due("private " + field.getName(), true, Modifier.isPrivate(field.getModifiers()));
        }
        Set<String> want = new TreeSet<>(Set.of(FACE));
        Set<String> got = new TreeSet<>();
        Set<String> publicNames = new TreeSet<>();
        for (Method method : face.getDeclaredMethods()) {
            if (!Modifier.isPrivate(method.getModifiers())) {
                got.add(described(method));
                publicNames.add(method.getName());
            }
        }
        Check.due("face", want, got);
        checkPrivateNames(face, publicNames);
        Check.end();
    }

    private static String described(Method method) {
        StringBuilder text = new StringBuilder();
        text.append(method.getReturnType().getName()).append(' ').append(method.getName()).append('(');
        String comma = "";
        for (Class<?> type : method.getParameterTypes()) {
            text.append(comma).append(type.getName());
            comma = ",";
        }
        text.append(')');
        for (Class<?> type : method.getExceptionTypes()) {
            text.append(' ').append(type.getSimpleName());
        }
        return Modifier.isPublic(method.getModifiers()) ? text.toString() : "not public: " + text;
    }

    private static void checkPrivateNames(Class<?> face, Set<String> publicNames) {
        for (Method method : face.getDeclaredMethods()) {
            if (Modifier.isPrivate(method.getModifiers())) {
                Check.due("name of a public one: " + method, false, publicNames.contains(method.getName()));
            }
        }
        for (Class<?> inside : face.getDeclaredClasses()) {
            for (Method method : inside.getDeclaredMethods()) {
                Check.due("name of a public one: " + method, false, publicNames.contains(method.getName()));
            }
        }
    }
}
