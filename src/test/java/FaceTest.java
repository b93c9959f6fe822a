import java.lang.reflect.Constructor;
import java.lang.reflect.Field;
import java.lang.reflect.Method;
import java.lang.reflect.Modifier;
import java.util.Arrays;
import java.util.Set;
import java.util.TreeSet;

/** The public face as the compiled class has it, and that no arguments make a call throw. */
public final class FaceTest {
    private static final Due due = new Due("FaceTest");

    private static final String[] METHODS = {
        "int strip(int,int,int)", "int tear(int)", "int put(int,int,long)", "long at(int,int,int)",
        "int copy(int,int,int,int,int)", "int ground(int,int)", "int kind(int,int,int,int)",
        "int taken(int,int,int,int)", "int tell(boolean,int,int)", "int rule(int,int)", "long ice(int,int,int)",
        "int years(int)", "int back()", "int steady(int)", "long cell(int,int,int)", "long layer(int,int,int,int)",
        "long sum(int,int)", "long about(int)", "long gives(int,int,int)", "int turn(int)", "int count(int)"};

    public static void main(String[] args) {
        constants();
        methods();
        extremes();
        due.end();
    }

    private static void constants() {
        due.is("UNKNOWN", GlacierYears.UNKNOWN, -1);
        due.is("OUTSIDE", GlacierYears.OUTSIDE, -2);
        due.is("STATE", GlacierYears.STATE, -3);
        due.is("FULL", GlacierYears.FULL, -4);
        due.is("NONE", GlacierYears.NONE, -9);
        Set<String> open = new TreeSet<>();
        for (Field f : GlacierYears.class.getDeclaredFields()) {
            if (!Modifier.isPrivate(f.getModifiers())) open.add(f.getName());
            if (Modifier.isStatic(f.getModifiers())) due.holds(f + " is final", Modifier.isFinal(f.getModifiers()));
        }
        due.holds("no other constants: " + open, open.equals(Set.of("UNKNOWN", "OUTSIDE", "STATE", "FULL", "NONE")));
    }

    private static void methods() {
        Set<String> open = new TreeSet<>();
        Set<String> hidden = new TreeSet<>();
        for (Method m : GlacierYears.class.getDeclaredMethods()) {
            String parameters = Arrays.toString(m.getParameterTypes()).replaceAll("[\\[\\] ]", "");
            String face = m.getReturnType() + " " + m.getName() + "(" + parameters + ")";
            if (Modifier.isPublic(m.getModifiers()) && !Modifier.isStatic(m.getModifiers())) open.add(face);
            else due.holds(face + " is private", Modifier.isPrivate(m.getModifiers()) && hidden.add(m.getName()));
        }
        due.holds("the methods of the face: " + open, open.equals(new TreeSet<>(Arrays.asList(METHODS))));
        for (String face : METHODS) {
            String name = face.substring(face.indexOf(' ') + 1, face.indexOf('('));
            due.holds("none private is called " + name, !hidden.contains(name));
        }
        Constructor<?>[] made = GlacierYears.class.getDeclaredConstructors();
        due.is("constructors", made.length, 1);
        due.holds("public", Modifier.isPublic(made[0].getModifiers()) && made[0].getParameterCount() == 0);
        due.holds("public and final", Modifier.isPublic(GlacierYears.class.getModifiers())
            && Modifier.isFinal(GlacierYears.class.getModifiers()));
    }

    private static final int[] NUMBERS = {Integer.MIN_VALUE, -9, -1, 0, 1, 2, 3, 4, 5, 7, 8, 9, 60, 61, 100, Integer.MAX_VALUE};

    /** No call throws, whatever the arguments, in whatever state. */
    private static void extremes() {
        everyCall(new GlacierYears());
        GlacierYears x = Grounds.of(new int[][] {{9999, 0, -1}, {1000, 2000, 3000}});
        for (int i = 0; i < 100; i++) x.ice(0, 0, 1000000);
        x.tell(false, 0, 100000);
        x.tell(false, 9, 100000);
        x.rule(100, 1000000);
        x.years(55);
        everyCall(x);
        Grounds.lay(x, new int[][] {{9999, 9999}, {0, 0}});
        everyCall(x);
    }

    private static void everyCall(GlacierYears x) {
        for (int a : NUMBERS) {
            one(x, a);
            for (int b : NUMBERS) {
                two(x, a, b);
                for (int c : NUMBERS) {
                    three(x, a, b, c);
                    for (int d : NUMBERS) four(x, a, b, c, d);
                }
            }
        }
    }

    private static void one(GlacierYears x, int a) {
        x.count(a);
        x.about(a);
        x.turn(a);
        x.years(a);
        x.steady(a);
        x.back();
        x.tear(a);
    }

    private static void two(GlacierYears x, int a, int b) {
        x.sum(a, b);
        x.rule(a, b);
        x.tell(true, a, b);
        x.tell(false, a, b);
        x.ground(a, b);
        x.put(a, b, Long.MIN_VALUE);
        x.put(a, b, 9999);
    }

    private static void three(GlacierYears x, int a, int b, int c) {
        x.strip(a, b, c);
        x.at(a, b, c);
        x.ice(a, b, c);
        x.cell(a, b, c);
        x.gives(a, b, c);
        x.years(1);
    }

    private static void four(GlacierYears x, int a, int b, int c, int d) {
        x.copy(a, b, c, d, 1);
        x.copy(a, b, 0, c, d);
        x.kind(a, b, c, d);
        x.taken(a, b, c, d);
        x.layer(a, b, c, d);
    }
}
