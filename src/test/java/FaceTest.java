import java.lang.reflect.Constructor;
import java.lang.reflect.Field;
import java.lang.reflect.Method;
import java.lang.reflect.Modifier;
import java.util.ArrayList;
import java.util.List;
import java.util.TreeSet;

/** The public face is the document's, and no more. */
public final class FaceTest {
    public static void main(String[] args) {
        Class<?> face = TableVolumes.class;
        Kit.holds("the class is public and final",
                Modifier.isPublic(face.getModifiers()) && Modifier.isFinal(face.getModifiers()));
        Kit.due("NONE", TableVolumes.NONE, -1);
        TreeSet<String> seen = new TreeSet<>();
        List<String> hidden = new ArrayList<>();
        for (Method m : face.getDeclaredMethods()) {
            if (Modifier.isPrivate(m.getModifiers())) {
                hidden.add(m.getName());
            } else {
                seen.add(m.toGenericString().replace("TableVolumes.", ""));
            }
        }
        for (Constructor<?> c : face.getDeclaredConstructors()) {
            seen.add(c.toGenericString());
        }
        for (Field f : face.getDeclaredFields()) {
            if (!Modifier.isPrivate(f.getModifiers())) {
                seen.add(f.toGenericString().replace("TableVolumes.", ""));
            }
        }
        Kit.due("the face", String.join("\n", seen), String.join("\n", wanted()));
        for (Method m : face.getMethods()) {
            Kit.holds("no private method is called " + m.getName(), !hidden.contains(m.getName()));
        }
        Kit.end();
    }

    private static TreeSet<String> wanted() {
        String state = "java.lang.IllegalStateException";
        String index = "java.lang.IndexOutOfBoundsException";
        String argument = "java.lang.IllegalArgumentException";
        String room = "java.lang.UnsupportedOperationException";
        TreeSet<String> wanted = new TreeSet<>();
        wanted.add("public TableVolumes(int)");
        wanted.add("public static final int NONE");
        wanted.add("public void feed(int,int,int,int,int)");
        wanted.add("public int end(int)");
        wanted.add("public void clear()");
        wanted.add("public int format(int,int,int,int) throws " + argument);
        wanted.add("public boolean poke(int,int,int)");
        wanted.add("public int fault()");
        wanted.add("public int byteAt(int,int)");
        wanted.add("public int free()");
        wanted.add("public int items() throws " + state);
        wanted.add("public int letter(int,int) throws " + state + "," + index);
        wanted.add("public long about(int,int) throws " + state + "," + index + "," + argument);
        wanted.add("public int content(int,int) throws " + state + "," + index);
        wanted.add("public int enter(int) throws " + state + "," + index + "," + argument);
        wanted.add("public boolean up() throws " + state);
        wanted.add("public int make(boolean) throws " + state + "," + argument + "," + room);
        wanted.add("public int write(int) throws " + state + "," + index + "," + argument + "," + room);
        wanted.add("public int grow(int,int,int) throws " + state + "," + index + "," + argument + "," + room);
        wanted.add("public int cut(int,int) throws " + state + "," + index + "," + argument);
        wanted.add("public void remove(int) throws " + state + "," + index + "," + argument);
        wanted.add("public void stamp(int,int,int,int) throws " + state + "," + index + "," + argument);
        return wanted;
    }

    private FaceTest() {
    }
}
