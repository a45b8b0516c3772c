import java.lang.reflect.Constructor;
import java.lang.reflect.Field;
import java.lang.reflect.Method;
import java.lang.reflect.Modifier;
import java.util.Arrays;
import java.util.Set;
import java.util.TreeSet;

/** The public face: its members and no others, and no other method by a name of theirs. */
final class FaceTests {
    private static final String[] FACE = {
        "int feed(int, int, int, int, int)", "boolean end(int)", "int fault(int)", "int text(int)",
        "int says(int, int)", "int clauses(int, int)", "int gap(int, int, int)", "int sure(int, int, int)",
        "int matters(int, int)", "int proof(int, int)", "int parts(int, int, int)", "int leads(int, int)",
        "int apart(int, int, int)", "int unlike(int, int)", "int spoiled(int, int)", "int unused(int)",
        "boolean set(int, int, int)", "int sort(int)", "boolean chance(int, int, int)", "long share(int, int)",
        "long mean(int, int, int, int)", "int worst(int, int, int, int)", "int best(int, int, int, int, int)",
        "long cost(int)", "int longest(int)", "int page(int)", "int tells(int, int)", "long off(int, int, int)",
        "int weak(int, int)", "int person(long, int)", "int mend(int, int)", "int swap(int, int)",
        "int chart(int, int, int)", "int least(int, int)", "int ruling(int, int)", "int against(int)",
        "int cure(int)", "int burden(int, int)", "int given(int, int, int, int)", "int office(int, int, int)",
        "long likely(int, int, int)", "int straight(int, int, int)", "int count(int)"};

    private FaceTests() {
    }

    static void all() {
        Set<String> due = new TreeSet<>(Arrays.asList(FACE));
        Set<String> names = new TreeSet<>();
        Set<String> got = new TreeSet<>();
        for (Method method : CoalForm.class.getDeclaredMethods()) {
            if (!Modifier.isPrivate(method.getModifiers())) {
                got.add(signature(method));
                names.add(method.getName());
                Check.due("face: public " + method, Modifier.isPublic(method.getModifiers()), true);
            }
        }
        got.stream().filter(member -> !due.contains(member)).forEach(FaceTests::tooMuch);
        due.stream().filter(member -> !got.contains(member)).forEach(FaceTests::missing);
        Check.due("face: methods", got.size(), FACE.length);
        Check.due("face: final", Modifier.isFinal(CoalForm.class.getModifiers()), true);
        for (Constructor<?> constructor : CoalForm.class.getDeclaredConstructors()) {
            Check.due("face: " + constructor, constructor.toString().equals("public CoalForm(int)"), true);
        }
        fields();
        privates(names);
    }

    private static String signature(Method method) {
        StringBuilder all = new StringBuilder(method.getReturnType() + " " + method.getName() + "(");
        for (Class<?> type : method.getParameterTypes()) {
            all.append(all.charAt(all.length() - 1) == '(' ? "" : ", ").append(type);
        }
        return all.append(")").toString();
    }

    private static void tooMuch(String member) {
        Check.due("face: not in the document: " + member, 1, 0);
    }

    private static void missing(String member) {
        Check.due("face: missing: " + member, 0, 1);
    }

    private static void fields() {
        Check.due("face: NONE", CoalForm.NONE, -1);
        Check.due("face: HIDDEN", CoalForm.HIDDEN, -2);
        for (Field field : CoalForm.class.getDeclaredFields()) {
            int is = field.getModifiers();
            boolean named = field.getName().equals("NONE") || field.getName().equals("HIDDEN");
            Check.due("face: field " + field, named ? Modifier.isPublic(is) : Modifier.isPrivate(is), true);
            Check.due("face: static is final " + field, !Modifier.isStatic(is) || Modifier.isFinal(is), true);
        }
    }

    private static void privates(Set<String> names) {
        int classes = 1;
        for (Class<?> inner : CoalForm.class.getDeclaredClasses()) {
            classes++;
            int is = inner.getModifiers();
            Check.due("face: " + inner, Modifier.isStatic(is) && Modifier.isPrivate(is), true);
            Check.due("face: twenty fields " + inner, inner.getDeclaredFields().length <= 20, true);
            for (Method method : inner.getDeclaredMethods()) {
                Check.due("face: name of " + method, names.contains(method.getName()), false);
                Check.due("face: seven parameters " + method, method.getParameterCount() <= 7, true);
            }
        }
        Check.due("face: twelve classes", classes <= 12, true);
        for (Method method : CoalForm.class.getDeclaredMethods()) {
            boolean hidden = Modifier.isPrivate(method.getModifiers());
            Check.due("face: name of " + method, hidden && names.contains(method.getName()), false);
        }
    }
}
