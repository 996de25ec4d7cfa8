import java.lang.reflect.Constructor;
import java.lang.reflect.Field;
import java.lang.reflect.Method;
import java.lang.reflect.Modifier;
import java.util.TreeSet;

/** The public face: what the document lists, and nothing else. */
public final class FaceTest {
  private static final String[] METHODS = {
    "int lay(int,int)", "int read()", "int swap(int,int)", "int freeze(int,int)", "int stake(int,int,int)", "int pass()",
    "int set(int,int)", "int type(char)", "int clearText()", "int undo()", "int keep()", "int restore()", "int cell(int,int)",
    "int line(int,int)", "int rival(int,int)", "int stakeOf(int,int)", "float odds(int)", "int would(int,int,int)",
    "int best()", "int count(int)", "int meanOddsBits()"};

  public static void main(String[] args) {
    Check check = new Check("FaceTest");
    Class<?> face = SquareStakes.class;
    check.due("public", Modifier.isPublic(face.getModifiers()) ? 1 : 0, 1);
    check.due("final", Modifier.isFinal(face.getModifiers()) ? 1 : 0, 1);

    TreeSet<String> wanted = new TreeSet<>();
    for (String method : METHODS) { wanted.add(method); }
    TreeSet<String> found = new TreeSet<>();
    for (Method method : face.getDeclaredMethods()) {
      if (Modifier.isPublic(method.getModifiers())) { found.add(told(method)); }
    }
    check.due("methods", found.toString(), wanted.toString());

    int constructors = 0;
    for (Constructor<?> constructor : face.getDeclaredConstructors()) {
      if (Modifier.isPublic(constructor.getModifiers()) && constructor.getParameterCount() == 0) { constructors++; }
    }
    check.due("public constructors", constructors, 1);
    check.due("constructors in all", face.getDeclaredConstructors().length, 1);

    TreeSet<String> constants = new TreeSet<>();
    for (Field field : face.getFields()) { constants.add(field.getName()); }
    check.due("constants", constants.toString(), "[BAD_VALUE, FULL, NONE, NOT_POSSIBLE, UNKNOWN]");
    check.due("UNKNOWN", SquareStakes.UNKNOWN, -1);
    check.due("BAD_VALUE", SquareStakes.BAD_VALUE, -2);
    check.due("FULL", SquareStakes.FULL, -3);
    check.due("NOT_POSSIBLE", SquareStakes.NOT_POSSIBLE, -4);
    check.due("NONE", SquareStakes.NONE, -5);
    nothingElseIsOpen(check, face);
    check.end();
  }

  /** The rule 1 of LANGUAGE.md: all else is private, and no private method bears the name of a public one. */
  private static void nothingElseIsOpen(Check check, Class<?> face) {
    TreeSet<String> names = new TreeSet<>();
    for (Method method : face.getDeclaredMethods()) {
      if (Modifier.isPublic(method.getModifiers())) { names.add(method.getName()); }
    }
    for (Method method : face.getDeclaredMethods()) {
      int modifiers = method.getModifiers();
      check.due(told(method) + " is open", Modifier.isPublic(modifiers) || Modifier.isPrivate(modifiers) ? 0 : 1, 0);
      check.due(told(method) + " bears a public name", Modifier.isPrivate(modifiers) && names.contains(method.getName()) ? 1 : 0, 0);
    }
    for (Field field : face.getDeclaredFields()) {
      int modifiers = field.getModifiers();
      check.due(field.getName() + " is open", Modifier.isPublic(modifiers) || Modifier.isPrivate(modifiers) ? 0 : 1, 0);
      check.due(field.getName() + " is no final static", Modifier.isStatic(modifiers) && !Modifier.isFinal(modifiers) ? 1 : 0, 0);
    }
    for (Class<?> inside : face.getDeclaredClasses()) {
      int modifiers = inside.getModifiers();
      check.due(inside.getName() + " is open", Modifier.isPublic(modifiers) || Modifier.isProtected(modifiers) ? 1 : 0, 0);
      check.due(inside.getName() + " is static", Modifier.isStatic(modifiers) ? 1 : 0, 1);
    }
  }

  private static String told(Method method) {
    StringBuilder text = new StringBuilder();
    text.append(Modifier.isStatic(method.getModifiers()) ? "static " : "");
    text.append(method.getReturnType().getName()).append(' ').append(method.getName()).append('(');
    Class<?>[] parameters = method.getParameterTypes();
    for (int i = 0; i < parameters.length; i++) { text.append(i == 0 ? "" : ",").append(parameters[i].getName()); }
    return text.append(')').toString();
  }
}
