import java.lang.reflect.Constructor;
import java.lang.reflect.Field;
import java.lang.reflect.Method;
import java.lang.reflect.Modifier;
import java.util.Arrays;
import java.util.TreeSet;

/** The class has the members of the document's face, and no others that are not private. */
public final class FaceTest {
  private static final String FACE = "NONE VOID MarshLights() hill(int,int,int) seer(int) star(int,int,int) "
      + "flies(int,int,int,int,int) flare(int,int,int,int) lamp(int,int,int,int) ground(int) at(int,int,int) "
      + "seen(int,int,int,int) tell(int,int,int,int,int) undo() off(int,int) telling(int,int) fits(int,int) left(int) "
      + "fewest() joined(int,int) cross(int,int,int) out(int,int) outs(int,int,int,int) size(int,int,int,int) "
      + "hulls(int,int) ask(int) feed(int,int,int,int,int) end(int) fault() rules() office(int,int,int,int) "
      + "grown(int,int,int,int) before(int,int,int,int) draw(int,int) count(int)";

  private static String of(String name, Class<?>[] types) {
    StringBuilder s = new StringBuilder(name).append('(');
    for (Class<?> type : types) s.append(s.charAt(s.length() - 1) == '(' ? "" : ",").append(type.getName());
    return s.append(')').toString();
  }

  public static void main(String[] args) {
    TreeSet<String> found = new TreeSet<>();
    TreeSet<String> names = new TreeSet<>();
    boolean good = Modifier.isFinal(MarshLights.class.getModifiers()) && Modifier.isPublic(MarshLights.class.getModifiers());
    for (Field f : MarshLights.class.getDeclaredFields()) {
      if (Modifier.isPrivate(f.getModifiers()) || f.isSynthetic()) continue;
      found.add(f.getName());
      good &= f.getModifiers() == (Modifier.PUBLIC | Modifier.STATIC | Modifier.FINAL) && f.getType() == int.class;
    }
    for (Constructor<?> c : MarshLights.class.getDeclaredConstructors()) {
      found.add(of("MarshLights", c.getParameterTypes()));
      good &= Modifier.isPublic(c.getModifiers());
    }
    for (Method m : MarshLights.class.getDeclaredMethods()) {
      if (Modifier.isPrivate(m.getModifiers()) || m.isSynthetic()) continue;
      found.add(of(m.getName(), m.getParameterTypes()));
      names.add(m.getName());
      good &= m.getModifiers() == Modifier.PUBLIC
          && m.getReturnType() == (m.getName().equals("off") || m.getName().equals("end") ? boolean.class : int.class);
    }
    TreeSet<String> want = new TreeSet<>(Arrays.asList(FACE.split(" ")));
    for (String member : want) if (!found.contains(member)) System.out.println("missing: " + member);
    for (String member : found) if (!want.contains(member)) System.out.println("not of the face: " + member);
    good &= found.equals(want) && MarshLights.NONE == -1 && MarshLights.VOID == -2147483648;
    for (Class<?> inner : MarshLights.class.getDeclaredClasses()) {
      good &= Modifier.isStatic(inner.getModifiers());
      for (Method m : inner.getDeclaredMethods()) {
        if (names.contains(m.getName())) {
          System.out.println("bears a public name: " + inner.getName() + "." + m.getName());
          good = false;
        }
      }
    }
    System.out.println(good ? "the face is as due" : "the face is not as due");
    if (!good) System.exit(1);
  }
}
