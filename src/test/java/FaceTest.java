import java.io.IOException;
import java.lang.reflect.Constructor;
import java.lang.reflect.Field;
import java.lang.reflect.Method;
import java.lang.reflect.Modifier;
import java.nio.file.Files;
import java.nio.file.Path;
import java.util.Set;
import java.util.TreeSet;
import java.util.regex.Matcher;
import java.util.regex.Pattern;

/** The class has the document's face and no other, and keeps to those rules of LANGUAGE.md that can be seen from outside. */
public final class FaceTest {
  private static int wrong = 0;

  private static final String[] FACE = {"feed int int int int int", "end int", "compile", "fault", "module int int", "part int int",
    "governor int", "give int int boolean int", "beat int", "present int int", "value int int", "variable int int", "wire int int int",
    "told int int", "paused int int", "keep int", "back int", "same int int", "search int", "move int int int int", "classOf int int",
    "way int int int", "never int int", "always int int int", "against int", "count int", "clear"};

  public static void main(String[] args) throws IOException {
    Set<String> names = checkMethods();
    checkFields(BeatMill.class, "NONE BAD STATE FULL BEYOND");
    Constructor<?>[] constructors = BeatMill.class.getDeclaredConstructors();
    check("one public constructor", constructors.length == 1 && Modifier.isPublic(constructors[0].getModifiers()));
    check("public and final", Modifier.isPublic(BeatMill.class.getModifiers()) && Modifier.isFinal(BeatMill.class.getModifiers()));
    for (Class<?> inside : BeatMill.class.getDeclaredClasses()) checkInside(inside, names);
    check("at most twelve classes", BeatMill.class.getDeclaredClasses().length + 1 <= 12);
    checkText(Files.readString(Path.of("src/main/java/BeatMill.java")));
    System.out.println(wrong == 0 ? "the face is the document's" : wrong + " things are not as told");
    if (wrong != 0) System.exit(1);
  }

  private static void check(String what, boolean holds) {
    if (!holds) {
      wrong++;
      System.out.println("not so: " + what);
    }
  }

  private static Set<String> checkMethods() {
    Set<String> want = new TreeSet<>();
    Set<String> names = new TreeSet<>();
    for (String method : FACE) {
      want.add(method);
      names.add(method.split(" ")[0]);
    }
    for (Method method : BeatMill.class.getDeclaredMethods()) {
      int modifiers = method.getModifiers();
      if (Modifier.isPrivate(modifiers)) {
        check("no private method is named " + method.getName(), !names.contains(method.getName()));
        continue;
      }
      StringBuilder text = new StringBuilder(method.getName());
      for (Class<?> type : method.getParameterTypes()) text.append(' ').append(type.getName());
      check(method + " is in the document", want.remove(text.toString()) && Modifier.isPublic(modifiers) && method.getReturnType() == int.class);
    }
    check("all methods are there but " + want, want.isEmpty());
    return names;
  }

  private static void checkFields(Class<?> of, String open) {
    Set<String> want = new TreeSet<>(Set.of(open.split(" ")));
    for (Field field : of.getDeclaredFields()) {
      int modifiers = field.getModifiers();
      check(field + " is final if it is static", !Modifier.isStatic(modifiers) || Modifier.isFinal(modifiers));
      if (of == BeatMill.class && !Modifier.isPrivate(modifiers)) check(field + " is in the document", want.remove(field.getName()));
    }
    if (of == BeatMill.class) check("all constants are there but " + want, want.isEmpty());
    check("some twenty fields in " + of, instanceFields(of) <= 20);
  }

  private static int instanceFields(Class<?> of) {
    int fields = 0;
    for (Field field : of.getDeclaredFields()) if (!Modifier.isStatic(field.getModifiers())) fields++;
    return fields;
  }

  private static void checkInside(Class<?> inside, Set<String> names) {
    int modifiers = inside.getModifiers();
    check(inside + " is static and not public", Modifier.isStatic(modifiers) && !Modifier.isPublic(modifiers) && !Modifier.isProtected(modifiers));
    checkFields(inside, "");
    for (Method method : inside.getDeclaredMethods()) {
      check("no method of " + inside + " is named " + method.getName(), !names.contains(method.getName()));
      check(method + " takes at most seven", method.getParameterCount() <= 7);
    }
  }

  private static void checkText(String source) {
    String bare = source.replaceAll("(?s)/\\*.*?\\*/", "").replaceAll("//[^\n]*", "").replaceAll("\"[^\"\n]*\"", "\"\"");
    Matcher banned = Pattern.compile("\\b(throw|throws|try|catch|synchronized|assert|package|Exact|hashCode|toString|Object)\\b|->|::|\"\" *\\+|\\+ *\"\"").matcher(bare);
    while (banned.find()) check("nothing like " + banned.group(), false);
    Matcher imports = Pattern.compile("import ([^;]*);").matcher(bare);
    while (imports.find()) check("no import of " + imports.group(1), imports.group(1).equals("java.util.ArrayList") || imports.group(1).equals("java.util.Arrays"));
  }
}
