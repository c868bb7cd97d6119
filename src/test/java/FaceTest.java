import java.lang.reflect.Constructor;
import java.lang.reflect.Field;
import java.lang.reflect.Member;
import java.lang.reflect.Method;
import java.lang.reflect.Modifier;
import java.util.TreeSet;

/** The public face is the document's, and nothing else of the class can be seen from outside. */
public final class FaceTest {
    private static final String[] FACE = {
        "int feed(int,int,int,int,int)", "boolean end(int)", "int fault(int)", "int text(int)", "int rule(int)",
        "int boy(int,int) throws java.util.NoSuchElementException", "int marble(int,int)", "int farm(int,int)",
        "boolean law(int)", "int play(int,int,int,int)", "int swap(int,int)", "int give(int,int)",
        "int chip(int)", "int swallow(int)", "int days(int)",
        "boolean spills(int)", "int years(int,long)", "int status(int)", "int undo()", "int log(int,int)",
        "int lands(int,int,int)", "int aim(int,int)", "int wins(int,int,int,int)", "int weather(int)",
        "int spell(int,int)", "int arrange(int)", "int seen(int,int,boolean)", "int who(int)", "int best()",
        "int game(int,int,int,int,int)", "int rests(int,int,int)", "int corner(int)", "int liking(int,int)",
        "int trades(int)", "int odds(int,int,int,int,int)", "int shares(int,int)", "int pays()", "int saves(int)",
        "int hands(int)", "int most(int)", "int image()", "int back()", "int count(int)"
    };

    public static void main(String[] args) {
        Check check = new Check();
        check.due("NONE", WeatherMarbles.NONE, -1);
        check.due("HIDDEN", WeatherMarbles.HIDDEN, -1000000);
        check.due("final", Modifier.isFinal(WeatherMarbles.class.getModifiers()), true);
        TreeSet<String> due = new TreeSet<>();
        TreeSet<String> names = new TreeSet<>();
        for (String line : FACE) {
            due.add(line);
            names.add(line.substring(line.indexOf(' ') + 1, line.indexOf('(')));
        }
        check.due("methods of the face", due.size(), 43);
        for (Method m : WeatherMarbles.class.getDeclaredMethods()) {
            String line = signature(m);
            if (Modifier.isPublic(m.getModifiers())) {
                check.due("a public " + line, due.remove(line), true);
            } else {
                checkHidden(check, m);
                check.due("the name of the private " + line, names.contains(m.getName()), false);
            }
        }
        check.due("missing: " + due, due.size(), 0);
        for (Field f : WeatherMarbles.class.getDeclaredFields()) {
            if (!f.getName().equals("NONE") && !f.getName().equals("HIDDEN")) {
                checkHidden(check, f);
            }
        }
        Constructor<?>[] constructors = WeatherMarbles.class.getDeclaredConstructors();
        check.due("constructors", constructors.length, 1);
        check.due("of the constructor", constructors[0].getParameterCount(), 0);
        check.finish();
    }

    private static void checkHidden(Check check, Member member) {
        check.due("private " + member.getName(), Modifier.isPrivate(member.getModifiers()), true);
    }

    private static String signature(Method m) {
        StringBuilder line = new StringBuilder(m.getReturnType().getName()).append(' ').append(m.getName()).append('(');
        for (int i = 0; i < m.getParameterCount(); i++) {
            line.append(i == 0 ? "" : ",").append(m.getParameterTypes()[i].getName());
        }
        line.append(')');
        for (Class<?> thrown : m.getExceptionTypes()) {
            line.append(" throws ").append(thrown.getName());
        }
        return line.toString();
    }
}
