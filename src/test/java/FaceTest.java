import java.lang.reflect.Constructor;
import java.lang.reflect.Field;
import java.lang.reflect.Method;
import java.lang.reflect.Modifier;
import java.util.Set;
import java.util.TreeSet;

/** The document's face and nothing beside it. */
final class FaceTest {
    private static final String[] FACE = {
        "public int SoapTreaty.feed(long,long,long)",
        "public int SoapTreaty.congress()",
        "public int SoapTreaty.years()",
        "public int SoapTreaty.power(int,int)",
        "public int SoapTreaty.cake(int,int)",
        "public int SoapTreaty.wash(int)",
        "public boolean SoapTreaty.hair(int)",
        "public boolean SoapTreaty.pick(int)",
        "public boolean SoapTreaty.gift(int,int)",
        "public int SoapTreaty.press(int)",
        "public int SoapTreaty.week()",
        "public boolean SoapTreaty.undo()",
        "public int SoapTreaty.judged(int)",
        "public int SoapTreaty.earnest(int,int)",
        "public int SoapTreaty.gone(int)",
        "public int SoapTreaty.worn(int)",
        "public int SoapTreaty.last()",
        "public int SoapTreaty.best(int)",
        "public int SoapTreaty.pressing(int)",
        "public int SoapTreaty.peace()",
        "public int SoapTreaty.pacts(int)",
        "public int SoapTreaty.soonest()",
        "public int SoapTreaty.blocs()",
        "public int SoapTreaty.devoted()",
        "public boolean SoapTreaty.see(int,int,int)",
        "public int SoapTreaty.sets(int)",
        "public int SoapTreaty.ask(int)",
        "public int SoapTreaty.chance(int,int,int)",
        "public int SoapTreaty.rests(int,int,int,int) throws java.util.NoSuchElementException",
        "public int SoapTreaty.reigns(int,int,int)",
        "public boolean SoapTreaty.mark(int,boolean)",
        "public int SoapTreaty.count(int)",
    };

    public static void main(String[] args) {
        Check check = new Check();
        check.due("NONE", SoapTreaty.NONE, -1);
        check.due("final", Modifier.isFinal(SoapTreaty.class.getModifiers()), true);
        Set<String> due = new TreeSet<>(Set.of(FACE));
        Set<String> faceNames = new TreeSet<>();
        Set<String> found = new TreeSet<>();
        for (Method method : SoapTreaty.class.getDeclaredMethods()) {
            if (!Modifier.isPrivate(method.getModifiers())) {
                found.add(method.toGenericString());
                faceNames.add(method.getName());
            }
        }
        for (String signature : due) {
            check.due(signature, found.contains(signature), true);
        }
        check.due("other members", found.size(), due.size());
        for (Field field : SoapTreaty.class.getDeclaredFields()) {
            boolean isNone = field.getName().equals("NONE");
            check.due(field.getName() + " is private", Modifier.isPrivate(field.getModifiers()), !isNone);
            check.due(field.getName() + " static is final",
                !Modifier.isStatic(field.getModifiers()) || Modifier.isFinal(field.getModifiers()), true);
        }
        Constructor<?>[] constructors = SoapTreaty.class.getDeclaredConstructors();
        check.due("constructors", constructors.length, 1);
        check.due("constructor's parameters", constructors[0].getParameterCount(), 0);
        check.due("constructor is public", Modifier.isPublic(constructors[0].getModifiers()), true);
        namesInside(check, faceNames);
        check.end("FaceTest");
    }

    /** LANGUAGE.md, rules 1, 2, 5 and 11. */
    private static void namesInside(Check check, Set<String> faceNames) {
        int classes = 1;
        for (Class<?> inside : SoapTreaty.class.getDeclaredClasses()) {
            classes++;
            check.due(inside + " is static", Modifier.isStatic(inside.getModifiers()), true);
            for (Method method : inside.getDeclaredMethods()) {
                check.due(method + " bears a name of the face", faceNames.contains(method.getName()), false);
                check.due(method + " has few parameters", method.getParameterCount() <= 7, true);
            }
            for (Field field : inside.getDeclaredFields()) {
                check.due(field + " static is final",
                    !Modifier.isStatic(field.getModifiers()) || Modifier.isFinal(field.getModifiers()), true);
            }
        }
        for (Method method : SoapTreaty.class.getDeclaredMethods()) {
            if (Modifier.isPrivate(method.getModifiers())) {
                check.due(method + " bears a name of the face", faceNames.contains(method.getName()), false);
            }
        }
        check.due("few classes", classes <= 12, true);
    }
}
