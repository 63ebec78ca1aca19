import java.lang.reflect.Constructor;
import java.lang.reflect.Field;
import java.lang.reflect.Method;
import java.lang.reflect.Modifier;
import java.util.Set;
import java.util.TreeSet;

/** The public face is the document's: nothing is missing and nothing else can be seen. */
public final class FaceTest {
    private static final String[] FACE = {
        "burl(int,int)", "crack(int,int,boolean)", "grain(int,int,int)", "shape(int,int,int,int,boolean)",
        "drop()", "fits(int,int,int,int,int)", "open()", "most(int,int,int,int)", "cut(int,int,int,int)",
        "sawn(int)", "costs(int,int)", "undo()", "world()", "doubt(int,int,int,boolean)", "choose(int)",
        "store(int,int,int,int)", "stored(int,int)", "age()", "order(int,int,int)", "filled(int)", "deliver()",
        "gains(int,int)", "pipe(int,int,int,int,int,int,int)", "told(int,int)", "feed(long)", "end(int)",
        "laws()", "fault()", "stamp(int,int)", "name(int,int)", "years(int,int)", "dated(int)", "lot(int,int)",
        "worst()", "sheet(int,int,int)", "lay(int,int,int)", "draw(int,int,int)", "count(int)"};

    public static void main(String[] args) {
        Check c = new Check("FaceTest");
        c.holds("the class is public and final", Modifier.isPublic(BurlPipes.class.getModifiers())
                && Modifier.isFinal(BurlPipes.class.getModifiers()));
        checkMethods(c);
        checkConstants(c);
        checkConstructor(c);
        checkNestedClasses(c);
        c.end();
    }

    private static void checkMethods(Check c) {
        Set<String> due = new TreeSet<>(Set.of(FACE));
        Set<String> seen = new TreeSet<>();
        Set<String> publicNames = new TreeSet<>();
        for (Method m : BurlPipes.class.getDeclaredMethods()) {
            if (!Modifier.isPrivate(m.getModifiers())) {
                seen.add(signature(m));
                publicNames.add(m.getName());
                c.holds(signature(m) + " is public, answers an int and is no static",
                        Modifier.isPublic(m.getModifiers()) && !Modifier.isStatic(m.getModifiers())
                        && m.getReturnType() == int.class);
            }
        }
        c.holds("the methods are " + due + ", seen are " + seen, due.equals(seen));
        for (Class<?> k : BurlPipes.class.getDeclaredClasses()) {
            for (Method m : k.getDeclaredMethods()) {
                c.holds(k.getName() + "." + m.getName() + " has a name of its own", !publicNames.contains(m.getName()));
            }
        }
        for (Method m : BurlPipes.class.getDeclaredMethods()) {
            c.holds(m.getName() + " is not private with a public one's name",
                    !Modifier.isPrivate(m.getModifiers()) || !publicNames.contains(m.getName()));
        }
    }

    private static String signature(Method m) {
        StringBuilder b = new StringBuilder(m.getName()).append('(');
        for (Class<?> k : m.getParameterTypes()) {
            b.append(b.charAt(b.length() - 1) == '(' ? "" : ",").append(k.getName());
        }
        return b.append(')').toString();
    }

    private static void checkConstants(Check c) {
        c.due("BAD", BurlPipes.BAD, -1);
        c.due("STATE", BurlPipes.STATE, -2);
        c.due("FULL", BurlPipes.FULL, -3);
        c.due("NONE", BurlPipes.NONE, -4);
        Set<String> seen = new TreeSet<>();
        for (Field f : BurlPipes.class.getDeclaredFields()) {
            if (!Modifier.isPrivate(f.getModifiers())) {
                seen.add(Modifier.toString(f.getModifiers()) + " " + f.getName());
            }
        }
        c.holds("the constants alone can be seen: " + seen, seen.equals(Set.of("public static final BAD",
                "public static final STATE", "public static final FULL", "public static final NONE")));
    }

    private static void checkConstructor(Check c) {
        Constructor<?>[] all = BurlPipes.class.getDeclaredConstructors();
        c.due("constructors", all.length, 1);
        c.holds("it is public and takes nothing",
                Modifier.isPublic(all[0].getModifiers()) && all[0].getParameterCount() == 0);
    }

    private static void checkNestedClasses(Check c) {
        c.holds("there are some twelve classes at most", BurlPipes.class.getDeclaredClasses().length <= 11);
        for (Class<?> k : BurlPipes.class.getDeclaredClasses()) {
            c.holds(k.getName() + " is static and not public",
                    Modifier.isStatic(k.getModifiers()) && !Modifier.isPublic(k.getModifiers()));
            for (Field f : k.getDeclaredFields()) {
                c.holds(f + ": what is static is final",
                        !Modifier.isStatic(f.getModifiers()) || Modifier.isFinal(f.getModifiers()));
            }
        }
    }
}
