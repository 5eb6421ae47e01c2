import java.lang.reflect.Constructor;
import java.lang.reflect.Field;
import java.lang.reflect.Method;
import java.lang.reflect.Modifier;
import java.util.Set;
import java.util.TreeSet;

/** The class has the document's face and no other, and its calls make no objects: all calls of a run live in one room. */
public final class StoneSecretsFace {
    private static final String FACE = "public int feed(long,long,long); public int valley(); public int year(); public int soul(int,int);"
        + "public int stands(int); public boolean tell(int); public boolean sets(int,int); public int take(int); public int week();"
        + "public boolean undo(); public int judged(int); public int may(int); public int falls(int); public int blurts(int);"
        + "public int later(int); public int bare(); public int first(); public int least(int); public int ways(); public int way(int,int);"
        + "public int times(int,int); public int sure(int); public int most(); public int fullest(); public int clear();"
        + "public int best(int,int); public int lean(); public int even(int); public int colours(); public int colour(int);"
        + "public int feud(); public int calm(); public int grudges(int); public int load(); public int gaps(); public int widest();"
        + "public int heavy(); public int beside(int); public int like(); public int swaps(); public boolean see(int,int,boolean);"
        + "public int fit(); public int look(); public int chance(int,int,int);"
        + "public int rests(int,int,int,int) throws java.util.NoSuchElementException; public int centuries(int,int,int);"
        + "public boolean mark(int,boolean); public int count(int)";
    private static final int CALLS = 40;
    private static final long MOST_BYTES = 20000;

    private static int wrong = 0;

    private static void check(String what, boolean right) {
        if (!right) {
            wrong++;
            System.out.println(what);
        }
    }

    private static void checkFace() {
        Set<String> want = new TreeSet<>();
        for (String one : FACE.split("; ?")) {
            want.add(one);
        }
        Set<String> got = new TreeSet<>();
        for (Method method : StoneSecrets.class.getDeclaredMethods()) {
            String name = " " + method.getName() + "(";
            if (!Modifier.isPrivate(method.getModifiers())) {
                got.add(method.toString().replace("StoneSecrets.", ""));
            } else {
                check("private, but of a public one's name: " + name, !FACE.contains(name));
            }
        }
        Set<String> missing = new TreeSet<>(want);
        missing.removeAll(got);
        Set<String> other = new TreeSet<>(got);
        other.removeAll(want);
        check("not there: " + missing, missing.isEmpty());
        check("not in the document: " + other, other.isEmpty());
    }

    private static void checkFieldsAndClasses() throws ReflectiveOperationException {
        check("it is public and final", StoneSecrets.class.getModifiers() == (Modifier.PUBLIC | Modifier.FINAL));
        for (Field field : StoneSecrets.class.getDeclaredFields()) {
            boolean constant = field.getName().equals("NONE");
            check("a field that is seen: " + field, constant || Modifier.isPrivate(field.getModifiers()));
            check("a static field that is not final: " + field, !Modifier.isStatic(field.getModifiers()) || Modifier.isFinal(field.getModifiers()));
        }
        check("NONE", StoneSecrets.class.getField("NONE").getModifiers() == (Modifier.PUBLIC | Modifier.STATIC | Modifier.FINAL));
        check("NONE is -1", StoneSecrets.NONE == -1);
        Constructor<?>[] constructors = StoneSecrets.class.getDeclaredConstructors();
        check("one constructor", constructors.length == 1 && constructors[0].toString().equals("public StoneSecrets()"));
        for (Class<?> inner : StoneSecrets.class.getDeclaredClasses()) {
            check("a class inside that is not static: " + inner, Modifier.isStatic(inner.getModifiers()));
            check("a class inside that is seen: " + inner, !Modifier.isPublic(inner.getModifiers()) && !Modifier.isProtected(inner.getModifiers()));
        }
    }

    private static void feedAll(StoneSecrets x, String text) {
        for (int at = 0; at < text.length(); at += 8) {
            long eight = 0;
            for (int i = at; i < at + 8; i++) {
                eight = eight << 8 | (i < text.length() ? text.charAt(i) : 0);
            }
            x.feed(eight, 0, 0);
        }
    }

    private static void askAll(StoneSecrets x, int i) {
        x.ways();
        x.way(20000, 0);
        x.times(1, 1);
        x.sure(2);
        x.fullest();
        x.clear();
        x.best(30, 1);
        x.even(1);
        x.colours();
        x.feud();
        x.fit();
        x.look();
        x.chance(0, 6, 5);
        x.centuries(i, 99, 0);
        x.judged(2);
        x.bare();
        x.first();
        x.swaps();
        x.mark(i % 4, i % 3 == 0);
        x.week();
        x.undo();
    }

    private static void checkRoom() {
        String valley = "wall 8; soul a plain secret 1 due 9; soul b plain secret 2 due 9; soul c plain secret 3 due 9; soul d plain secret 4 due 9;"
            + "soul e plain secret 5 due 9; soul f plain secret 6 due 9; hurts a b; frost 1 2 3 4 5 6; falls (weight < cold) or beside = 2;";
        String year = "tell a; set a 1; week; tell b; set b 4; week; take a; set a 7;";
        com.sun.management.ThreadMXBean bean = (com.sun.management.ThreadMXBean) java.lang.management.ManagementFactory.getThreadMXBean();
        long thread = Thread.currentThread().getId();
        StoneSecrets x = new StoneSecrets();
        long least = Long.MAX_VALUE;
        for (int round = 0; round < 3; round++) {
            long before = bean.getThreadAllocatedBytes(thread);
            for (int i = 0; i < CALLS; i++) {
                feedAll(x, valley);
                check("the valley", x.valley() == 0);
                feedAll(x, year);
                check("the year", x.year() == 0);
                for (int soul = 0; soul < 6; soul++) {
                    x.tell(soul);
                }
                askAll(x, i);
            }
            least = Math.min(least, bean.getThreadAllocatedBytes(thread) - before);
        }
        check("calls make objects: " + least + " bytes", least < MOST_BYTES);
    }

    public static void main(String[] args) throws ReflectiveOperationException {
        checkFace();
        checkFieldsAndClasses();
        checkRoom();
        System.out.println(wrong == 0 ? "the face is as due" : wrong + " are not as due");
        if (wrong != 0) {
            System.exit(1);
        }
    }
}
