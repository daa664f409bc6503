import com.sun.management.ThreadMXBean;
import java.lang.management.ManagementFactory;
import java.lang.reflect.Field;
import java.lang.reflect.Method;
import java.lang.reflect.Modifier;
import java.nio.charset.StandardCharsets;
import java.nio.file.Files;
import java.nio.file.Path;
import java.util.ArrayList;
import java.util.HashSet;
import java.util.List;
import java.util.Set;
import java.util.TreeSet;
import java.util.regex.Matcher;
import java.util.regex.Pattern;

/** What of ../shared/LANGUAGE.md, and of the room that calls may take, can be looked at by a program. */
public final class LanguageTest {
  private static final String FACE = "add again all back best cell chance copy count drawn feed film force image"
      + " leaveOut people person run sandwich set sheet spare sunday taken tells text told";
  private static final String NEVER = "throw|throws|try|catch|synchronized|assert|package|import|volatile|native"
      + "|Object|Thread|Random|Exception|Error|hashCode|equals|toString|protected|var|->|::";
  private static final Set<String> LIBRARY = Set.of("Math.max", "Math.min", "Integer.bitCount", "System.arraycopy");
  private static int wrong = 0;

  public static void main(String[] args) throws Exception {
    face();
    members();
    source(Files.readString(Path.of("src/main/java/SandwichesSpeak.java"), StandardCharsets.US_ASCII));
    room();
    System.out.println("LanguageTest: " + wrong + " wrong");
    System.exit(wrong == 0 ? 0 : 1);
  }

  private static void need(boolean holds, String what) {
    if (!holds) {
      wrong++;
      System.out.println("LanguageTest: " + what);
    }
  }

  private static void face() {
    Class<?> c = SandwichesSpeak.class;
    need(Modifier.isPublic(c.getModifiers()) && Modifier.isFinal(c.getModifiers()), "the class is public and final");
    need(c.getDeclaredConstructors().length == 1 && c.getConstructors().length == 1, "one constructor, public");
    List<String> names = new ArrayList<>();
    for (Method m : c.getDeclaredMethods()) {
      if (!Modifier.isPrivate(m.getModifiers())) {
        names.add(m.getName());
        need(Modifier.isPublic(m.getModifiers()) && !Modifier.isStatic(m.getModifiers()), m + " is of the face");
      }
    }
    names.sort(null);
    need(String.join(" ", names).equals(FACE), "the methods of the face: " + names);
    Set<String> constants = new TreeSet<>();
    for (Field f : c.getDeclaredFields()) {
      if (!Modifier.isPrivate(f.getModifiers())) {
        constants.add(f.getName());
      }
    }
    need(constants.toString().equals("[BAD, FULL, NO, NONE, STATE]"), "the constants of the face: " + constants);
  }

  private static void members() {
    List<Class<?>> classes = new ArrayList<>(List.of(SandwichesSpeak.class.getDeclaredClasses()));
    need(classes.size() <= 11, "twelve classes at most");
    for (Class<?> c : classes) {
      need(Modifier.isStatic(c.getModifiers()) && !Modifier.isPublic(c.getModifiers()), c + " is static, not public");
    }
    classes.add(SandwichesSpeak.class);
    Set<String> face = new HashSet<>(List.of(FACE.split(" ")));
    for (Class<?> c : classes) {
      int fields = 0;
      for (Field f : c.getDeclaredFields()) {
        boolean isStatic = Modifier.isStatic(f.getModifiers());
        need(!isStatic || Modifier.isFinal(f.getModifiers()), f + " is static and not final");
        fields += isStatic ? 0 : 1;
      }
      need(fields <= 20, c + " has more than 20 fields");
      for (Method m : c.getDeclaredMethods()) {
        need(m.getParameterCount() <= 7, m + " takes more than 7");
        need(Modifier.isPublic(m.getModifiers()) || !face.contains(m.getName()), m + " bears a name of the face");
        need(!m.isSynthetic(), m + " is javac's own");
      }
    }
  }

  private static void source(String text) {
    need(!Pattern.compile("\"\\s*\\+|\\+\\s*\"").matcher(text).find(), "texts are joined by +");
    String bare = text.replaceAll("(?s)/\\*.*?\\*/", "").replaceAll("//[^\n]*", "")
        .replaceAll("\"[^\"\n]*\"", "\"\"").replaceAll("'.'", "' '");
    Matcher never = Pattern.compile("(?<![A-Za-z_])(" + NEVER + ")(?![A-Za-z_])").matcher(bare);
    while (never.find()) {
      need(false, "there is: " + never.group());
    }
    need(!Pattern.compile("static\\s*\\{").matcher(bare).find(), "a static block");
    Matcher library = Pattern.compile("(?<![\\w.])(Integer|Long|Math|System|Arrays|String|List)\\.\\w+").matcher(bare);
    while (library.find()) {
      need(LIBRARY.contains(library.group()), "there is: " + library.group());
    }
    int begun = -1;
    String[] lines = bare.split("\n");
    for (int i = 0; i < lines.length; i++) {
      if (lines[i].matches("  (  )?[a-zA-Z].*\\) \\{")) {
        begun = i;
      } else if (lines[i].matches("  (  )?\\}") && begun >= 0) {
        need(i - begun < 60, "a method of more than 60 lines at " + begun);
        begun = -1;
      }
      // an object that is made makes its rows, and no call makes any
      need(!lines[i].matches("      .*\\bnew\\b.*") || lines[i].contains("[i] = new "), "new in a call: " + lines[i]);
    }
  }

  /** 512 calls of the dearest take no room at all (the measuring itself takes a little). */
  private static void room() {
    SandwichesSpeak x = new SandwichesSpeak();
    for (int i = 0; i < 5; i++) {
      x.person(i, i);
    }
    ThreadMXBean bean = (ThreadMXBean) ManagementFactory.getThreadMXBean();
    calls(x);
    long id = Thread.currentThread().getId();
    long ahead = bean.getThreadAllocatedBytes(id);
    calls(x);
    long taken = bean.getThreadAllocatedBytes(id) - ahead;
    need(taken < 4096, "calls took " + taken + " bytes");
    ahead = bean.getThreadAllocatedBytes(id);
    new SandwichesSpeak();
    taken = bean.getThreadAllocatedBytes(id) - ahead;
    need(taken < 20000, "an object took " + taken + " bytes");
  }

  private static void calls(SandwichesSpeak x) {
    for (int i = 0; i < 64; i++) {
      x.best(i % 5, 10, 0);
      x.film(i % 4, i % 5, 10);
      x.tells(i % 4, i % 5, 1 + i % 5);
      x.chance(i, 20, 0, 0);
      x.sheet(i % 4, i % 3, 40);
      x.again(i % 3);
      x.feed('c');
      x.text();
    }
  }
}
