import java.util.ArrayList;
import java.util.Arrays;
import java.util.Collections;
import java.util.HashSet;
import java.util.List;
import java.util.Set;
import java.util.function.IntUnaryOperator;
import java.util.function.ToIntFunction;

/**
 * The document once more, written apart from the class and in another way: kinds that inherit, texts
 * as trees, refusals that are thrown, a whole new state for each thought. ModelTest compares both.
 */
final class Model {
  static final int NONE = -1, BAD = -2, STATE = -3, FULL = -4;
  static final long NO = -4611686018427387904L;

  static final class Refusal extends RuntimeException {
    private static final long serialVersionUID = 1;
    final int number;

    Refusal(int number) {
      this.number = number;
    }
  }

  static void need(boolean holds, int otherwise) {
    if (!holds) {
      throw new Refusal(otherwise);
    }
  }

  static int bound(int v) {
    return v < -20 ? -20 : v > 20 ? 20 : v;
  }

  // ---- kinds

  static class Cousin {
    int number, mood;

    boolean cuts(boolean yes, int l) {
      return yes;
    }

    int feels(int v, int l) {
      return v;
    }

    boolean sends(boolean yes, int to) {
      return yes;
    }
  }

  static class Mother extends Cousin {
    @Override boolean cuts(boolean yes, int l) {
      return super.cuts(yes, l) || l == number % 8;
    }

    @Override int feels(int v, int l) {
      return Math.max(-1, super.feels(v, l));
    }

    @Override boolean sends(boolean yes, int to) {
      return true;
    }
  }

  static class Inlaw extends Cousin {
    @Override boolean cuts(boolean yes, int l) {
      return super.cuts(yes, l) && (l & 1) == 0;
    }

    @Override int feels(int v, int l) {
      return bound(2 * super.feels(v, l));
    }

    @Override boolean sends(boolean yes, int to) {
      return super.sends(yes, to) && mood >= -5;
    }
  }

  static class Grandmother extends Mother {
    @Override boolean cuts(boolean yes, int l) {
      return l != 7 && super.cuts(yes, l);
    }

    @Override int feels(int v, int l) {
      return bound(1 + super.feels(v, l));
    }
  }

  static class Brother extends Inlaw {
    @Override boolean cuts(boolean yes, int l) {
      return super.cuts(yes, l) || (l == 3 && mood < 0);
    }

    @Override int feels(int v, int l) {
      return bound(super.feels(v, l) / 2 - number);
    }

    @Override boolean sends(boolean yes, int to) {
      return super.sends(yes, to) || to == number;
    }
  }

  static class Child extends Cousin {
    @Override boolean cuts(boolean yes, int l) {
      return l < 3 || mood >= 10;
    }

    @Override int feels(int v, int l) {
      return l >= 4 ? 0 : super.feels(v, l);
    }
  }

  static final List<Class<? extends Cousin>> KINDS = List.of(
      Cousin.class, Mother.class, Inlaw.class, Grandmother.class, Brother.class, Child.class);

  static Cousin make(int kind) {
    switch (kind) {
      case 0: return new Cousin();
      case 1: return new Mother();
      case 2: return new Inlaw();
      case 3: return new Grandmother();
      case 4: return new Brother();
      default: return new Child();
    }
  }

  // ---- texts

  /** What a text is asked for: layer, mood, number, theirs, from, to. */
  interface Tree {
    int of(int[] names);
  }

  record Text(Tree cuts, Tree feels, Tree sends) {}

  record Token(String what, int place) {}

  static final class Fault extends RuntimeException {
    private static final long serialVersionUID = 1;
    final int place;

    Fault(int place) {
      this.place = place;
    }
  }

  static final List<String> NAMES = List.of("layer", "mood", "number", "theirs", "from", "to");
  static final Set<String> KEYS = Set.of("cuts", "feels", "sends", "or", "and", "not");

  /** All tokens; one that is none has the word "?" and is the last. */
  static List<Token> tokens(String tape) {
    List<Token> found = new ArrayList<>();
    int at = 0;
    while (true) {
      while (at < tape.length() && " \n".indexOf(tape.charAt(at)) >= 0) {
        at++;
      }
      if (at == tape.length()) {
        found.add(new Token("", at));
        return found;
      }
      int end = at + 1;
      char c = tape.charAt(at);
      if (c >= 'a' && c <= 'z') {
        while (end < tape.length() && tape.charAt(end) >= 'a' && tape.charAt(end) <= 'z') {
          end++;
        }
      } else if (c >= '0' && c <= '9') {
        while (end < tape.length() && tape.charAt(end) >= '0' && tape.charAt(end) <= '9') {
          end++;
        }
      }
      String word = tape.substring(at, end);
      boolean fine = NAMES.contains(word) || KEYS.contains(word) || word.matches("[0-9]{1,4}")
          || word.matches("[();+*<=-]");
      found.add(new Token(fine ? word : "?", at));
      if (!fine) {
        return found;
      }
      at = end;
    }
  }

  static final class Parser {
    final List<Token> tokens;
    int at = 0;
    int open = 0;

    Parser(String tape) {
      tokens = tokens(tape);
    }

    String look() {
      return tokens.get(at).what();
    }

    boolean sees(String what) {
      return look().equals(what);
    }

    Fault fault() {
      return new Fault(tokens.get(at).place());
    }

    void eat(String what) {
      if (!sees(what)) {
        throw fault();
      }
      if (at < tokens.size() - 1) {
        at++;
      }
    }

    void enter(String what) {
      if (open == 5) {
        throw fault();
      }
      eat(what);
      open++;
    }

    Text text() {
      Tree[] parts = new Tree[3];
      String[] keys = {"cuts", "feels", "sends"};
      for (int i = 0; i < 3; i++) {
        eat(keys[i]);
        parts[i] = or();
        eat(";");
      }
      eat("");
      return new Text(parts[0], parts[1], parts[2]);
    }

    Tree or() {
      Tree left = and();
      while (sees("or")) {
        eat("or");
        Tree a = left, b = and();
        left = n -> (a.of(n) != 0 | b.of(n) != 0) ? 1 : 0;
      }
      return left;
    }

    Tree and() {
      Tree left = not();
      while (sees("and")) {
        eat("and");
        Tree a = left, b = not();
        left = n -> (a.of(n) != 0 & b.of(n) != 0) ? 1 : 0;
      }
      return left;
    }

    Tree not() {
      if (sees("not")) {
        enter("not");
        Tree a = not();
        open--;
        return n -> a.of(n) == 0 ? 1 : 0;
      }
      Tree a = sum();
      if (sees("<")) {
        eat("<");
        Tree b = sum();
        return n -> a.of(n) < b.of(n) ? 1 : 0;
      }
      if (sees("=")) {
        eat("=");
        Tree b = sum();
        return n -> a.of(n) == b.of(n) ? 1 : 0;
      }
      return a;
    }

    Tree sum() {
      Tree left = term();
      while (sees("+") || sees("-")) {
        boolean plus = sees("+");
        eat(look());
        Tree a = left, b = term();
        left = plus ? n -> a.of(n) + b.of(n) : n -> a.of(n) - b.of(n);
      }
      return left;
    }

    Tree term() {
      Tree left = one();
      while (sees("*")) {
        eat("*");
        Tree a = left, b = one();
        left = n -> a.of(n) * b.of(n);
      }
      return left;
    }

    Tree one() {
      String word = look();
      if (word.matches("[0-9]+")) {
        eat(word);
        int v = Integer.parseInt(word);
        return n -> v;
      }
      if (NAMES.contains(word)) {
        eat(word);
        int i = NAMES.indexOf(word);
        return n -> n[i];
      }
      if (word.equals("-")) {
        enter("-");
        Tree a = one();
        open--;
        return n -> -a.of(n);
      }
      if (word.equals("(")) {
        enter("(");
        Tree a = or();
        eat(")");
        open--;
        return a;
      }
      throw fault();
    }
  }

  // ---- the state

  static final class State {
    List<Cousin> people = new ArrayList<>();
    Set<Integer> used = new HashSet<>(List.of(0, 1, 2, 3, 4, 5, 6, 7));
    int sunday = 0;
    int rule = 0;
    int out = NONE;

    State anew() {
      State s = new State();
      for (Cousin p : people) {
        Cousin q = make(KINDS.indexOf(p.getClass()));
        q.number = p.number;
        q.mood = p.mood;
        s.people.add(q);
      }
      s.used = new HashSet<>(used);
      s.sunday = sunday;
      s.rule = rule;
      s.out = out;
      return s;
    }
  }

  State now = new State();
  State image = null;
  final List<Text> texts = new ArrayList<>();
  final StringBuilder tape = new StringBuilder();
  /** null, byte[], short[] or int[]. */
  final Object[] sheets = new Object[4];

  Model() {
    texts.add(new Parser("cuts layer < 3 + mood ; feels layer - 3 ; sends 1 ;").text());
  }

  static int answer(java.util.function.IntSupplier call) {
    try {
      return call.getAsInt();
    } catch (Refusal r) {
      return r.number;
    }
  }

  boolean isOne(int one) {
    return one >= 0 && one < now.people.size();
  }

  static boolean in(int v, int least, int most) {
    return v >= least && v <= most;
  }

  // ---- the rule

  boolean sends(State s, int a, int b) {
    Cousin p = s.people.get(a), q = s.people.get(b);
    int yes = texts.get(s.rule).sends().of(new int[] {0, p.mood, p.number, q.mood, a, b});
    return p.sends(yes != 0, b);
  }

  Set<Integer> layers(State s, int a, int b) {
    Set<Integer> in = new HashSet<>();
    if (s.out == a || s.out == b || !sends(s, a, b)) {
      return in;
    }
    Cousin p = s.people.get(a), q = s.people.get(b);
    for (int l : s.used) {
      int yes = texts.get(s.rule).cuts().of(new int[] {l, p.mood, p.number, q.mood, a, b});
      if (p.cuts(yes != 0, l)) {
        in.add(l);
      }
    }
    return in;
  }

  int feels(State s, int getter, int sender, int l) {
    Cousin p = s.people.get(getter), q = s.people.get(sender);
    int v = texts.get(s.rule).feels().of(new int[] {l, p.mood, p.number, q.mood, sender, getter});
    return p.feels(bound(v), l);
  }

  int feelsAll(State s, int getter, int sender, Set<Integer> layers) {
    return layers.stream().mapToInt(l -> feels(s, getter, sender, l)).sum();
  }

  int comes(State s, int getter) {
    int sum = 0;
    for (int a = 0; a < s.people.size(); a++) {
      if (a != getter) {
        sum += feelsAll(s, getter, a, layers(s, a, getter));
      }
    }
    return sum;
  }

  State next(State s) {
    State t = s.anew();
    for (int i = 0; i < s.people.size(); i++) {
      t.people.get(i).mood = bound(s.people.get(i).mood + comes(s, i));
    }
    return t;
  }

  State behind(State s, int n) {
    return n == 0 ? s.anew() : behind(next(s), n - 1);
  }

  static int glad(State s) {
    return s.people.stream().mapToInt(p -> p.mood).sum();
  }

  static List<Integer> moods(State s) {
    List<Integer> all = new ArrayList<>();
    s.people.forEach(p -> all.add(p.mood));
    return all;
  }

  static int bits(Set<Integer> set) {
    return set.stream().mapToInt(i -> 1 << i).sum();
  }

  // ---- the calls

  int set(int what, int of, int v) {
    return answer(() -> {
      need(in(what, 0, 3), -1000);
      if (what == 0) {
        need(in(v, 0, 999), -1000);
        int was = now.sunday;
        now.sunday = v;
        return was;
      }
      if (what == 1) {
        need(in(of, 0, 7) && in(v, 0, 1), -1000);
        boolean was = v == 1 ? !now.used.add(of) : now.used.remove(of);
        return was ? 1 : 0;
      }
      need(isOne(of) && (what == 2 ? in(v, 0, 9) : in(v, -20, 20)), -1000);
      Cousin p = now.people.get(of);
      int was = what == 2 ? p.number : p.mood;
      if (what == 2) {
        p.number = v;
      } else {
        p.mood = v;
      }
      return was;
    });
  }

  int person(int kind, int number) {
    return answer(() -> {
      need(in(kind, 0, 5) && in(number, 0, 9), BAD);
      need(now.people.size() < 5, FULL);
      Cousin p = make(kind);
      p.number = number;
      now.people.add(p);
      return now.people.size() - 1;
    });
  }

  int told(int of, int what) {
    return answer(() -> {
      need(in(what, 0, 7), -1000);
      if (what == 0) {
        return now.sunday;
      }
      if (what == 1) {
        need(in(of, 0, 7), -1000);
        return now.used.contains(of) ? 1 : 0;
      }
      need(isOne(of), -1000);
      Cousin p = now.people.get(of);
      int filled = 0, come = 0;
      for (int i = 0; i < now.people.size(); i++) {
        if (i != of) {
          filled += layers(now, of, i).isEmpty() ? 0 : 1;
          come += layers(now, i, of).size();
        }
      }
      int[] answers = {p.number, p.mood, KINDS.indexOf(p.getClass()), filled, come,
          next(now).people.get(of).mood};
      return answers[what - 2];
    });
  }

  int feed(int letter) {
    return answer(() -> {
      need(in(letter, 0, 255), BAD);
      need(tape.length() < 160, FULL);
      tape.append((char) letter);
      return tape.length();
    });
  }

  int text() {
    return answer(() -> {
      need(texts.size() < 6, FULL);
      String whole = tape.toString();
      tape.setLength(0);
      try {
        texts.add(new Parser(whole).text());
      } catch (Fault f) {
        return -100 - f.place;
      }
      return texts.size() - 1;
    });
  }

  int force(int text) {
    return answer(() -> {
      need(in(text, 0, texts.size() - 1), BAD);
      int was = now.rule;
      now.rule = text;
      return was;
    });
  }

  int sandwich(int one, int other, int what) {
    return answer(() -> {
      need(isOne(one) && isOne(other) && one != other, -1000);
      need(in(what, 0, 3) || in(what, 10, 17), -1000);
      Set<Integer> in = layers(now, one, other);
      switch (what) {
        case 0: return bits(in);
        case 1: return in.size();
        case 2: return sends(now, one, other) ? 1 : 0;
        case 3: return feelsAll(now, other, one, in);
        default: return feels(now, other, one, what - 10);
      }
    });
  }

  int sunday() {
    return answer(() -> {
      need(now.sunday != 999, -1000);
      now = next(now);
      now.sunday++;
      return glad(now);
    });
  }

  int empties(State s) {
    int sum = 0;
    for (int a = 0; a < s.people.size(); a++) {
      for (int b = 0; b < s.people.size(); b++) {
        sum += a != b && layers(s, a, b).isEmpty() ? 1 : 0;
      }
    }
    return sum;
  }

  int run(int n, int what) {
    return answer(() -> {
      need(in(n, 0, 40), -1000);
      need(in(what, 0, 1) || what >= 10 && isOne(what - 10), -1000);
      int sum = 0;
      State s = now;
      for (int i = 0; i < n; i++) {
        sum += empties(s);
        s = next(s);
      }
      return what == 0 ? glad(s) : what == 1 ? sum : s.people.get(what - 10).mood;
    });
  }

  int again(int what) {
    return answer(() -> {
      need(in(what, 0, 2), BAD);
      List<List<Integer>> seen = new ArrayList<>();
      State s = now;
      int again = NONE, round = NONE, dead = NONE;
      for (int n = 0; n <= 40; n++) {
        List<Integer> moods = moods(s);
        int first = seen.indexOf(moods);
        if (first >= 0 && again == NONE) {
          again = n;
          round = n - first;
        }
        if (n > 0 && dead == NONE && seen.get(n - 1).equals(moods)) {
          dead = n - 1;
        }
        seen.add(moods);
        s = next(s);
      }
      return what == 0 ? again : what == 1 ? round : dead;
    });
  }

  int all(int what) {
    return answer(() -> {
      need(in(what, 0, 3), -1000);
      List<Integer> lettuce = new ArrayList<>();
      int left = (1 << now.people.size()) - 1;
      for (int a = 0; a < now.people.size(); a++) {
        for (int b = 0; b < now.people.size(); b++) {
          if (a != b) {
            Set<Integer> in = layers(now, a, b);
            if (in.equals(Set.of(0))) {
              lettuce.add(10 * a + b);
            }
            if (!in.isEmpty()) {
              left &= ~(1 << b);
            }
          }
        }
      }
      return what == 0 ? glad(now) : what == 1 ? lettuce.size()
          : what == 2 ? (lettuce.isEmpty() ? NONE : Collections.min(lettuce)) : left;
    });
  }

  int gladIf(int n, ToIntFunction<State> change) {
    State s = now.anew();
    change.applyAsInt(s);
    return glad(behind(s, n));
  }

  int best(int one, int n, int what) {
    return answer(() -> {
      need(isOne(one) && in(n, 0, 10) && in(what, 0, 1), -1000);
      int[] glads = new int[41];
      for (int m = -20; m <= 20; m++) {
        int mood = m;
        glads[m + 20] = gladIf(n, s -> s.people.get(one).mood = mood);
      }
      int most = Arrays.stream(glads).max().getAsInt();
      int least = 0;
      while (glads[least] != most) {
        least++;
      }
      return what == 0 ? least - 20 : most;
    });
  }

  int mostOf(int what, int asItIs, int size, IntUnaryOperator glad, IntUnaryOperator counts) {
    int first = NONE, most = asItIs;
    for (int i = size - 1; i >= 0; i--) {
      if (counts.applyAsInt(i) != 0) {
        int g = glad.applyAsInt(i);
        if (g > asItIs && g >= most) {
          most = g;
          first = i;
        }
      }
    }
    return what == 0 ? first : most;
  }

  int leaveOut(int n, int what) {
    return answer(() -> {
      need(in(n, 0, 40) && in(what, 0, 1), -1000);
      return mostOf(what, glad(behind(now, n)), now.people.size(),
          i -> gladIf(n, s -> s.out = i), i -> 1);
    });
  }

  int spare(int n, int what) {
    return answer(() -> {
      need(in(n, 0, 40) && in(what, 0, 1), -1000);
      return mostOf(what, glad(behind(now, n)), 8,
          i -> gladIf(n, s -> s.used.remove(i) ? 1 : 0), i -> now.used.contains(i) ? 1 : 0);
    });
  }

  int add(int one, int other, int what) {
    return answer(() -> {
      need(isOne(one) && isOne(other) && one != other && in(what, 0, 1), -1000);
      Set<Integer> in = layers(now, one, other);
      int rest = now.people.get(other).mood + comes(now, other);
      return mostOf(what, bound(rest), 8, l -> bound(rest + feels(now, other, one, l)),
          l -> now.used.contains(l) && !in.contains(l) ? 1 : 0);
    });
  }

  static int size(Object row) {
    return java.lang.reflect.Array.getLength(row);
  }

  static int item(Object row, int i) {
    return java.lang.reflect.Array.getInt(row, i);
  }

  int otherwise(State start, Object row, int one) {
    for (int i = 0; i < size(row); i++) {
      if (behind(start, i + 1).people.get(one).mood != item(row, i)) {
        return i;
      }
    }
    return NONE;
  }

  int tells(int sheet, int one, int what) {
    return answer(() -> {
      need(in(sheet, 0, 3) && isOne(one) && in(what, 0, 5), -1000);
      Object row = sheets[sheet];
      need(row != null, -11);
      need(size(row) <= 10, -1000);
      if (what == 0) {
        return otherwise(now, row, one);
      }
      int kinds = 0, numbers = 0, byTexts = 0;
      List<Integer> moods = new ArrayList<>();
      for (int v = 0; v < 6 && what == 1; v++) {
        State s = now.anew();
        Cousin p = make(v);
        p.mood = s.people.get(one).mood;
        p.number = s.people.get(one).number;
        s.people.set(one, p);
        kinds += otherwise(s, row, one) == NONE ? 1 << v : 0;
      }
      for (int v = 0; v < 10 && what == 2; v++) {
        State s = now.anew();
        s.people.get(one).number = v;
        numbers += otherwise(s, row, one) == NONE ? 1 << v : 0;
      }
      for (int v = -20; v <= 20 && in(what, 3, 4); v++) {
        State s = now.anew();
        s.people.get(one).mood = v;
        if (otherwise(s, row, one) == NONE) {
          moods.add(v);
        }
      }
      for (int v = 0; v < texts.size() && what == 5; v++) {
        State s = now.anew();
        s.rule = v;
        byTexts += otherwise(s, row, one) == NONE ? 1 << v : 0;
      }
      int least = moods.isEmpty() ? -100 : Collections.min(moods);
      return new int[] {kinds, numbers, moods.size(), least, byTexts}[what - 1];
    });
  }

  int film(int sheet, int one, int n) {
    return answer(() -> {
      need(in(sheet, 0, 3) && isOne(one) && in(n, 0, 10), BAD);
      byte[] row = new byte[n];
      for (int i = 0; i < n; i++) {
        row[i] = (byte) behind(now, i + 1).people.get(one).mood;
      }
      sheets[sheet] = row;
      return n;
    });
  }

  int drawn(int seed) {
    State s = now.anew();
    int z = seed;
    for (Cousin p : s.people) {
      z = z * 1103515245 + 12345;
      p.mood = (z >>> 9) % 41 - 20;
    }
    return glad(behind(s, 5));
  }

  long chance(int seed, int m, int k, int part) {
    if (!in(m, 1, 20) || !in(k, -100, 100) || !in(part, 0, 1)) {
      return NO;
    }
    int above = 0;
    for (int i = 0; i < m; i++) {
      above += drawn(seed + i) >= k ? 1 : 0;
    }
    int a = above, b = m;
    while (b != 0) {
      int c = a % b;
      a = b;
      b = c;
    }
    return part == 0 ? above / a : m / a;
  }

  int image() {
    image = now.anew();
    return image.people.size();
  }

  int back() {
    return answer(() -> {
      need(image != null, STATE);
      now = image.anew();
      return now.people.size();
    });
  }

  int count(int what) {
    return answer(() -> {
      need(in(what, 0, 5), BAD);
      return new int[] {now.people.size(), now.used.size(), now.sunday, texts.size(), tape.length(),
          now.rule}[what];
    });
  }

  // ---- the host, as the Java machine would have it

  static int hosted(java.util.function.IntSupplier call) {
    try {
      return answer(call);
    } catch (NullPointerException e) {
      return -11;
    } catch (IndexOutOfBoundsException e) {
      return -12;
    } catch (ClassCastException | ArrayStoreException e) {
      return -13;
    } catch (NegativeArraySizeException e) {
      return -14;
    }
  }

  int sheet(int sheet, int sort, int n) {
    return hosted(() -> {
      need(in(sheet, 0, 3) && in(sort, -1, 2), BAD);
      if (sort == -1) {
        sheets[sheet] = null;
        return 1;
      }
      need(n <= 40, BAD);
      sheets[sheet] = sort == 0 ? new byte[n] : sort == 1 ? (Object) new short[n] : new int[n];
      return 1;
    });
  }

  int cell(int sheet, int i, int v) {
    return hosted(() -> {
      need(in(sheet, 0, 3), BAD);
      Object row = sheets[sheet];
      if (row instanceof byte[] b) {
        b[i] = (byte) v;
      } else if (row instanceof short[] s) {
        s[i] = (short) v;
      } else {
        ((int[]) row)[i] = v;
      }
      return 1;
    });
  }

  int copy(int sheet, int i, int other, int j, int n) {
    return hosted(() -> {
      need(in(sheet, 0, 3) && in(other, 0, 3), BAD);
      System.arraycopy(sheets[sheet], i, sheets[other], j, n);
      return n;
    });
  }

  int people(int sheet, int sort, int from, int n) {
    return hosted(() -> {
      need(in(sheet, 0, 3) && in(sort, 0, 2) && in(n, 0, 5), BAD);
      Object row = sheets[sheet];
      Object same = sort == 0 ? (byte[]) row : sort == 1 ? (Object) (short[]) row : (int[]) row;
      need(same != null, -11);
      int came = 0;
      for (int k = 0; k < n; k++) {
        need(in(from + 2 * k, 0, size(same) - 1), -12);
        need(in(from + 2 * k + 1, 0, size(same) - 1), -12);
        came += person(item(same, from + 2 * k), item(same, from + 2 * k + 1)) >= 0 ? 1 : 0;
      }
      return came;
    });
  }

  int taken(int one, int k) {
    return hosted(() -> {
      need(in(k, 0, 5), BAD);
      need(isOne(one), -11);
      return KINDS.get(k).cast(now.people.get(one)).number;
    });
  }
}
