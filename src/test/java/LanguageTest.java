import java.io.IOException;
import java.lang.reflect.Constructor;
import java.lang.reflect.Field;
import java.lang.reflect.Method;
import java.lang.reflect.Modifier;
import java.nio.file.Files;
import java.nio.file.Path;
import java.util.List;
import java.util.TreeSet;
import java.util.regex.Matcher;
import java.util.regex.Pattern;

/** The rules of LANGUAGE.md that can be looked at from outside: the face, words left out, fields. */
public final class LanguageTest {
  private static final Due D = new Due();
  private static final List<String> FACE = List.of(
      "about(int)int", "again(int)int", "deck(int)int", "draught(int,int)int", "evenings(int)int",
      "fault()int", "fit(int)int", "hold(int,int,int,int)int", "house()int", "judge(int,long)int",
      "keep(int)int", "open(int)int", "piece(int,int)int", "put(int,int)int", "rests(int,int,int)int",
      "seed(long)long", "shaken(int,int,boolean)int", "share(int,boolean)int", "spread(int)int",
      "stands(int)int", "take(int)int", "tents(int)int", "undo()int", "unhold()int", "wants(int,int)int",
      "wipe()int", "write(int)int");

  public static void main(String[] args) throws IOException {
    String source = args.length > 0 ? args[0] : "src/main/java/CardHouse.java";
    words(Files.readString(Path.of(source)).replaceAll("(?s)/\\*.*?\\*/|//[^\\n]*", ""));
    face();
    fields(CardHouse.class);
    for (Class<?> inside : CardHouse.class.getDeclaredClasses()) {
      D.due("rule 1, static " + inside, Modifier.isStatic(inside.getModifiers()) ? 1 : 0, 1);
      fields(inside);
      names(inside);
    }
    D.end();
  }

  private static void words(String code) {
    String left = "\\b(throw|throws|try|catch|finally|synchronized|assert|import|package|Object|System|Thread"
        + "|hashCode|toString|volatile|native|double|float)\\b|->|::|\\bstatic\\s*\\{|\\w+Exact\\b";
    Matcher m = Pattern.compile(left).matcher(code);
    while (m.find()) D.due("a word left out: " + m.group(), 1, 0);
    D.due("words looked at", code.contains("class CardHouse") ? 1 : 0, 1);
  }

  private static void face() {
    TreeSet<String> open = new TreeSet<>();
    TreeSet<String> names = new TreeSet<>();
    for (Method m : CardHouse.class.getDeclaredMethods()) {
      if (Modifier.isPublic(m.getModifiers())) {
        open.add(told(m));
        names.add(m.getName());
      }
    }
    D.due("rule 1, the face " + open, open.equals(new TreeSet<>(FACE)) ? 1 : 0, 1);
    for (Method m : CardHouse.class.getDeclaredMethods()) {
      if (Modifier.isPublic(m.getModifiers())) continue;
      D.due("rule 1, private " + m, Modifier.isPrivate(m.getModifiers()) ? 1 : 0, 1);
      D.due("rule 1, a public name " + m, names.contains(m.getName()) ? 1 : 0, 0);
    }
    Constructor<?>[] made = CardHouse.class.getDeclaredConstructors();
    D.due("rule 1, constructors", made.length, 1);
    D.due("rule 1, public and final", CardHouse.class.getModifiers() & 17, 17);
  }

  private static String told(Method m) {
    StringBuilder s = new StringBuilder(m.getName()).append('(');
    for (Class<?> c : m.getParameterTypes()) s.append(s.charAt(s.length() - 1) == '(' ? "" : ",").append(c);
    return s.append(')').append(m.getReturnType()).toString();
  }

  private static void names(Class<?> inside) {
    for (Method m : inside.getDeclaredMethods()) {
      for (String open : FACE) {
        D.due("rule 1, a public name " + m, open.startsWith(m.getName() + "(") ? 1 : 0, 0);
      }
      D.due("rule 11, parameters of " + m, m.getParameterCount() <= 7 ? 1 : 0, 1);
    }
  }

  private static void fields(Class<?> c) {
    int own = 0;
    TreeSet<String> open = new TreeSet<>();
    for (Field f : c.getDeclaredFields()) {
      int how = f.getModifiers();
      if (Modifier.isStatic(how)) D.due("rule 5, final " + f, Modifier.isFinal(how) ? 1 : 0, 1);
      else own++;
      if (!Modifier.isPrivate(how)) open.add(f.getName());
    }
    D.due("rule 11, fields of " + c, own <= 20 ? 1 : 0, 1);
    String due = c == CardHouse.class ? "[BAD, FULL, LATE, NONE, UNKNOWN]" : "[]";
    D.due("rule 1, fields that can be seen in " + c + " " + open, open.toString().equals(due) ? 1 : 0, 1);
  }
}
