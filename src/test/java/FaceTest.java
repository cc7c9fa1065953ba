import java.io.IOException;
import java.lang.reflect.Constructor;
import java.lang.reflect.Field;
import java.lang.reflect.Method;
import java.lang.reflect.Modifier;
import java.nio.file.Files;
import java.nio.file.Path;
import java.util.Arrays;
import java.util.Set;
import java.util.TreeSet;
import java.util.regex.Matcher;
import java.util.regex.Pattern;

/** The public face, and the rules of LANGUAGE.md that reflection or the source's words can show. */
public final class FaceTest {
  private static final String SOURCE = "src/main/java/SafeCheckout.java";

  private static final Set<String> CONSTANTS = Set.of(
      "MIN_PATHS=8", "MAX_PATHS=24", "MAX_CONTENT=1000",
      "HEAD=0", "INDEX=1", "WORK=2", "TARGET=3",
      "KIND_ABSENT=0", "KIND_FILE=1", "KIND_DIR=2",
      "OK=0", "REFUSED_STAGED=1", "REFUSED_LOCAL=2", "REFUSED_UNTRACKED=3", "REFUSED_HIDDEN=4",
      "SAME=0", "ADDED=1", "DELETED=2", "MODIFIED=3");

  private static final Set<String> METHODS = Set.of(
      "int size[]", "boolean write[int, int]", "int delete[int]", "boolean stage[int]",
      "int commit[]", "boolean setTarget[int, int]", "void targetFromHead[]",
      "int switchTo[boolean]", "int preview[]", "int lastPath[]", "int entry[int, int]",
      "int kind[int, int]", "int status[int]", "int countFiles[int]");

  private static final String FORBIDDEN =
      "\\b(import|package|throw|throws|try|catch|synchronized|assert|instanceof|null|float|double"
          + "|String|Math|Integer|System|Arrays|Object|class\\s+\\w+\\s+extends|interface|enum"
          + "|record|protected|super|hashCode|equals|toString|getClass)\\b|->|::|\"";

  public static void main(String[] args) throws IOException, IllegalAccessException {
    classIsAlone();
    constants();
    methods();
    words();
    Due.end();
  }

  private static void classIsAlone() {
    Class<?> type = SafeCheckout.class;
    int modifiers = type.getModifiers();
    Due.is("public and final", Modifier.isPublic(modifiers) && Modifier.isFinal(modifiers), true);
    Due.is("nested classes", type.getDeclaredClasses().length, 0);
    Due.is("interfaces", type.getInterfaces().length, 0);
    Due.is("extends nothing", type.getSuperclass() == Object.class, true);
    Constructor<?>[] made = type.getDeclaredConstructors();
    Due.is("constructors", made.length, 1);
    Due.is("constructor is public", Modifier.isPublic(made[0].getModifiers()), true);
    Due.is("constructor takes an int", Arrays.toString(made[0].getParameterTypes()).equals("[int]"), true);
  }

  private static void constants() throws IllegalAccessException {
    Set<String> found = new TreeSet<>();
    for (Field field : SafeCheckout.class.getDeclaredFields()) {
      int modifiers = field.getModifiers();
      boolean constant = Modifier.isStatic(modifiers) && Modifier.isFinal(modifiers);
      if (Modifier.isPublic(modifiers)) {
        Due.is(field.getName() + " is a constant int", constant && field.getType() == int.class, true);
        found.add(field.getName() + "=" + field.getInt(null));
      } else {
        Due.is(field.getName() + " is private", Modifier.isPrivate(modifiers), true);
        Due.is(field.getName() + " is no static variable", Modifier.isStatic(modifiers), constant);
      }
    }
    same("constants", found, CONSTANTS);
  }

  private static void methods() {
    Set<String> found = new TreeSet<>();
    Set<String> publicNames = new TreeSet<>();
    Set<String> privateNames = new TreeSet<>();
    for (Method method : SafeCheckout.class.getDeclaredMethods()) {
      int modifiers = method.getModifiers();
      Due.is(method.getName() + " takes at most seven", method.getParameterCount() <= 7, true);
      if (Modifier.isPublic(modifiers)) {
        Due.is(method.getName() + " is not static", Modifier.isStatic(modifiers), false);
        String parameters = Arrays.toString(method.getParameterTypes());
        found.add(method.getReturnType() + " " + method.getName() + parameters);
        publicNames.add(method.getName());
      } else {
        Due.is(method.getName() + " is private", Modifier.isPrivate(modifiers), true);
        privateNames.add(method.getName());
      }
    }
    same("methods", found, METHODS);
    privateNames.retainAll(publicNames);
    same("private methods with a public one's name", privateNames, Set.of());
  }

  private static void same(String what, Set<String> got, Set<String> want) {
    if (!got.equals(want)) {
      System.out.println(what + " are " + got + ", due are " + new TreeSet<>(want));
    }
    Due.is(what + " as due", got.equals(want), true);
  }

  private static void words() throws IOException {
    String source = Files.readString(Path.of(SOURCE));
    String code = source.replaceAll("(?s)/\\*.*?\\*/", "").replaceAll("//[^\n]*", "");
    Matcher matcher = Pattern.compile(FORBIDDEN).matcher(code);
    while (matcher.find()) {
      Due.is("'" + matcher.group() + "' in the source", 1, 0);
    }
    long made = Pattern.compile("\\bnew\\b").matcher(code).results().count();
    long fields = Pattern.compile("(?m)^  private final int\\[\\] \\w+ = new int\\[[A-Z_]+\\];$")
        .matcher(code).results().count();
    Due.is("arrays and objects made outside a field's initialiser", made - fields, 0);
  }
}
