import java.lang.reflect.Constructor;
import java.lang.reflect.Field;
import java.lang.reflect.Method;
import java.lang.reflect.Modifier;
import java.util.TreeSet;

/** Promise 1, and the face. */
public final class Promise1NewObjectTest {
    public static void main(String[] args) {
        Check check = new Check();
        check.due("BAD", IntervalText.BAD, -1);
        check.due("FULL", IntervalText.FULL, -2);
        check.due("an empty tape", new IntervalText().feed('[', 1), 1);
        check.due("an empty tape", new IntervalText().read(), 0);
        check.due("nothing read", new IntervalText().low(), Check.NAN);
        check.due("nothing read", new IntervalText().high(), Check.NAN);
        check.due("an empty out", new IntervalText().word(0), 0);
        check.due("an empty out", new IntervalText().back(), 0);
        objectsShareNothing(check);
        faceIsTheDocuments(check);
        check.end("promise 1");
    }

    private static void objectsShareNothing(Check check) {
        IntervalText one = new IntervalText();
        IntervalText other = new IntervalText();
        check.reads(one, "[1,2]", Check.COM, Check.bits(1), Check.bits(2));
        one.write(Check.bits(1), Check.bits(2), 4, 1);
        Check.feed(one, "[3");
        check.due("another object's low", other.low(), Check.NAN);
        check.due("another object's out", other.word(0), 0);
        check.due("another object's tape", other.back(), 0);
    }

    private static void faceIsTheDocuments(Check check) {
        TreeSet<String> face = new TreeSet<>();
        for (Method method : IntervalText.class.getDeclaredMethods()) {
            if (!Modifier.isPrivate(method.getModifiers())) {
                face.add(method.toString());
            }
        }
        for (Field field : IntervalText.class.getDeclaredFields()) {
            if (!Modifier.isPrivate(field.getModifiers())) {
                face.add(field.toString());
            }
        }
        for (Constructor<?> constructor : IntervalText.class.getDeclaredConstructors()) {
            face.add(constructor.toString());
        }
        TreeSet<String> due = new TreeSet<>();
        due.add("public static final int IntervalText.BAD");
        due.add("public static final int IntervalText.FULL");
        due.add("public IntervalText()");
        due.add("public int IntervalText.feed(long,int)");
        due.add("public int IntervalText.read()");
        due.add("public long IntervalText.low()");
        due.add("public long IntervalText.high()");
        due.add("public int IntervalText.write(long,long,int,int)");
        due.add("public int IntervalText.back()");
        due.add("public long IntervalText.word(int)");
        check.due("the face", face.toString(), due.toString());
        check.due("public and final", IntervalText.class.getModifiers(), Modifier.PUBLIC | Modifier.FINAL);
    }
}
