import java.lang.reflect.Constructor;
import java.lang.reflect.Field;
import java.lang.reflect.Member;
import java.lang.reflect.Method;
import java.lang.reflect.Modifier;
import java.util.Arrays;
import java.util.Set;
import java.util.TreeSet;

/** The class shows the members of the document's face, and none but those. */
public final class RunHeapFace {

    private static final String[] FACE = {
        "public static final int RunHeap.NONE",
        "public RunHeap(int)",
        "public int RunHeap.give(int)",
        "public int RunHeap.giveAligned(int,int)",
        "public boolean RunHeap.free(int)",
        "public boolean RunHeap.grow(int,int)",
        "public boolean RunHeap.trim(int,int)",
        "public boolean RunHeap.pin(int,boolean)",
        "public int RunHeap.get(int,int) throws java.util.NoSuchElementException,"
                + "java.lang.IndexOutOfBoundsException",
        "public int RunHeap.set(int,int,int) throws java.util.NoSuchElementException,"
                + "java.lang.IndexOutOfBoundsException",
        "public int RunHeap.sizeOf(int)",
        "public int RunHeap.largest()",
        "public int RunHeap.count(int)",
        "public int RunHeap.freeAt(int)",
        "public int RunHeap.branch(int,int) throws java.util.NoSuchElementException,"
                + "java.lang.IllegalArgumentException",
        "public int RunHeap.advise(int)",
        "public int RunHeap.window()",
        "public int RunHeap.move(int,int) throws java.lang.IndexOutOfBoundsException,"
                + "java.lang.IllegalArgumentException",
        "public int RunHeap.apply()",
        "public int RunHeap.moved(int)"
    };

    private static int wrong = 0;

    private static void say(String text) {
        wrong++;
        System.out.println(text);
    }

    private static void show(Set<String> shown, Member member, String text) {
        if (!Modifier.isPrivate(member.getModifiers()) && !member.isSynthetic()) {
            shown.add(text);
        }
    }

    public static void main(String[] args) {
        Set<String> shown = new TreeSet<>();
        for (Field field : RunHeap.class.getDeclaredFields()) {
            show(shown, field, field.toGenericString());
            int modifiers = field.getModifiers();
            if (Modifier.isStatic(modifiers) && !Modifier.isFinal(modifiers)) {
                say("a static field is not final: " + field);
            }
        }
        for (Constructor<?> constructor : RunHeap.class.getDeclaredConstructors()) {
            show(shown, constructor, constructor.toGenericString());
        }
        Set<String> names = new TreeSet<>();
        for (Method method : RunHeap.class.getDeclaredMethods()) {
            show(shown, method, method.toGenericString());
            if (Modifier.isPublic(method.getModifiers())) {
                names.add(method.getName());
            }
        }
        Set<String> face = new TreeSet<>(Arrays.asList(FACE));
        for (String member : face) {
            if (!shown.contains(member)) {
                say("not there: " + member);
            }
        }
        for (String member : shown) {
            if (!face.contains(member)) {
                say("not in the document: " + member);
            }
        }
        if (RunHeap.class.getModifiers() != (Modifier.PUBLIC | Modifier.FINAL)) {
            say("the class is not public and final alone");
        }
        lookAtNames(names);
        System.out.println(wrong == 0 ? "the face is as it should be" : wrong + " faults");
        if (wrong != 0) {
            System.exit(1);
        }
    }

    private static void lookAtNames(Set<String> faceNames) {
        for (Method method : RunHeap.class.getDeclaredMethods()) {
            if (Modifier.isPrivate(method.getModifiers()) && faceNames.contains(method.getName())) {
                say("a private method bears a public one's name: " + method);
            }
        }
        for (Class<?> inside : RunHeap.class.getDeclaredClasses()) {
            if (!Modifier.isStatic(inside.getModifiers())) {
                say("a class inside is not static: " + inside);
            }
            for (Method method : inside.getDeclaredMethods()) {
                if (faceNames.contains(method.getName())) {
                    say("a method inside bears a public one's name: " + method);
                }
            }
        }
    }
}
