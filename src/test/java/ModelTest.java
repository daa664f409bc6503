import java.util.Random;

/** Long runs of drawn calls on the class and on the model: all answers must be alike. */
public final class ModelTest {
  private static final int RUNS = 1000, CALLS = 512;
  private static final int[] EDGES = {Integer.MIN_VALUE, Integer.MIN_VALUE + 1, -1001, -21, -2, -1, 41,
      161, 256, 1000, Integer.MAX_VALUE - 1, Integer.MAX_VALUE};
  private static final String[] PIECES = {"cuts", "feels", "sends", "or", "and", "not", "layer", "mood",
      "number", "theirs", "from", "to", "(", ")", ";", "+", "-", "*", "<", "=", "0", "12", "9999",
      "10000", " ", "\n", "\t", "x", "A", "layers", "007", "\u00e9", "/", ">"};

  private final Random random;
  private final int run;
  private final SandwichesSpeak x = new SandwichesSpeak();
  private final Model y = new Model();
  private int calls = 0;
  private int wrong = 0;

  private ModelTest(int run) {
    this.run = run;
    this.random = new Random(run);
  }

  public static void main(String[] args) {
    int wrong = 0;
    for (int run = 0; run < RUNS && wrong < 20; run++) {
      ModelTest test = new ModelTest(run);
      test.go();
      wrong += test.wrong;
    }
    System.out.println(wrong == 0 ? "ModelTest: all answers are alike" : "ModelTest: " + wrong + " wrong");
    System.exit(wrong == 0 ? 0 : 1);
  }

  private void same(String call, long got, long due) {
    calls++;
    if (got != due) {
      wrong++;
      System.out.println("run " + run + ", call " + calls + ": " + call + " answered " + got + ", the model " + due);
    }
  }

  private void go() {
    if (random.nextInt(3) > 0) {
      feed(drawText());
      same("text()", x.text(), y.text());
      same("force(1)", x.force(1), y.force(1));
      for (int i = random.nextInt(6); i > 0; i--) {
        int kind = random.nextInt(6), number = random.nextInt(10), mood = random.nextInt(41) - 20;
        same("person", x.person(kind, number), y.person(kind, number));
        int last = y.now.people.size() - 1;
        same("set", x.set(3, last, mood), y.set(3, last, mood));
      }
    }
    while (calls < CALLS && wrong == 0) {
      one();
      if (calls < CALLS) {
        int what = calls % 6;
        same("count " + what, x.count(what), y.count(what));
      }
    }
  }

  /** A number that mostly is in least .. most. */
  private int draw(int least, int most) {
    int how = random.nextInt(40);
    if (how == 0) {
      return EDGES[random.nextInt(EDGES.length)];
    }
    if (how == 1) {
      return random.nextBoolean() ? least - 1 : most + 1;
    }
    return least + random.nextInt(most - least + 1);
  }

  private int drawOne() {
    return draw(0, Math.max(0, y.now.people.size() - 1));
  }

  private void one() {
    int a, b, c, d, e;
    switch (random.nextInt(32)) {
      case 0: {
        a = draw(0, 3);
        b = a == 1 ? draw(0, 7) : drawOne();
        c = a == 0 ? draw(0, 999) : a == 1 ? draw(0, 1) : a == 2 ? draw(0, 9) : draw(-20, 20);
        same("set " + a + " " + b + " " + c, x.set(a, b, c), y.set(a, b, c));
        break;
      }
      case 1: case 28: {
        a = draw(0, 5);
        b = draw(0, 9);
        same("person " + a + " " + b, x.person(a, b), y.person(a, b));
        break;
      }
      case 2: case 29: {
        b = draw(0, 7);
        a = b == 1 ? draw(0, 7) : drawOne();
        same("told " + a + " " + b, x.told(a, b), y.told(a, b));
        break;
      }
      case 3: {
        a = draw(0, 255);
        same("feed " + a, x.feed(a), y.feed(a));
        break;
      }
      case 4: {
        if (random.nextInt(4) == 0) {
          feed(drawTokens());
        } else if (random.nextInt(3) == 0) {
          feed(drawText());
        } else {
          feed(spoiled(drawText()));
        }
        break;
      }
      case 5: {
        String tape = y.tape.toString();
        same("text \"" + tape + "\"", x.text(), y.text());
        break;
      }
      case 6: {
        a = draw(0, y.texts.size() - 1);
        same("force " + a, x.force(a), y.force(a));
        break;
      }
      case 7: case 8: {
        a = drawOne();
        b = drawOne();
        c = random.nextBoolean() ? draw(0, 3) : draw(10, 17);
        same("sandwich " + a + " " + b + " " + c, x.sandwich(a, b, c), y.sandwich(a, b, c));
        break;
      }
      case 9: {
        same("sunday", x.sunday(), y.sunday());
        break;
      }
      case 10: {
        a = draw(0, 40);
        b = random.nextBoolean() ? draw(0, 1) : 10 + drawOne();
        same("run " + a + " " + b, x.run(a, b), y.run(a, b));
        break;
      }
      case 11: {
        a = draw(0, 2);
        same("again " + a, x.again(a), y.again(a));
        break;
      }
      case 12: case 30: {
        a = draw(0, 3);
        same("all " + a, x.all(a), y.all(a));
        break;
      }
      case 13: {
        a = drawOne();
        b = random.nextInt(4) > 0 ? draw(0, 2) : draw(0, 10);
        c = draw(0, 1);
        same("best " + a + " " + b + " " + c, x.best(a, b, c), y.best(a, b, c));
        break;
      }
      case 14: {
        a = random.nextInt(4) > 0 ? draw(0, 3) : draw(0, 40);
        b = draw(0, 1);
        same("leaveOut " + a + " " + b, x.leaveOut(a, b), y.leaveOut(a, b));
        break;
      }
      case 15: {
        a = random.nextInt(4) > 0 ? draw(0, 3) : draw(0, 40);
        b = draw(0, 1);
        same("spare " + a + " " + b, x.spare(a, b), y.spare(a, b));
        break;
      }
      case 16: {
        a = drawOne();
        b = drawOne();
        c = draw(0, 1);
        same("add " + a + " " + b + " " + c, x.add(a, b, c), y.add(a, b, c));
        break;
      }
      case 17: case 18: {
        a = draw(0, 3);
        b = drawOne();
        c = draw(0, 5);
        same("tells " + a + " " + b + " " + c, x.tells(a, b, c), y.tells(a, b, c));
        break;
      }
      case 19: {
        a = draw(0, 3);
        b = drawOne();
        c = random.nextInt(3) > 0 ? draw(0, 3) : draw(0, 10);
        same("film " + a + " " + b + " " + c, x.film(a, b, c), y.film(a, b, c));
        break;
      }
      case 20: {
        a = random.nextInt();
        same("drawn " + a, x.drawn(a), y.drawn(a));
        break;
      }
      case 21: {
        a = random.nextBoolean() ? random.nextInt() : draw(0, 9);
        b = draw(1, 20);
        c = draw(-100, 100);
        d = draw(0, 1);
        same("chance " + a + " " + b + " " + c + " " + d, x.chance(a, b, c, d), y.chance(a, b, c, d));
        break;
      }
      case 22: {
        if (random.nextInt(3) == 0) {
          same("image", x.image(), y.image());
        } else {
          same("back", x.back(), y.back());
        }
        break;
      }
      case 23: {
        a = draw(0, 3);
        b = draw(-1, 2);
        c = random.nextInt(3) > 0 ? draw(0, 12) : draw(0, 40);
        if (random.nextInt(3) == 0) {
          same("sheet " + a + " " + b + " " + c, x.sheet(a, b, c), y.sheet(a, b, c));
        }
        break;
      }
      case 24: case 31: {
        a = draw(0, 3);
        b = random.nextInt(3) > 0 ? draw(0, 4) : draw(0, 40);
        c = random.nextInt(6) == 0 ? random.nextInt() : draw(-20, 20);
        same("cell " + a + " " + b + " " + c, x.cell(a, b, c), y.cell(a, b, c));
        break;
      }
      case 25: {
        a = draw(0, 3);
        b = draw(0, 6);
        c = draw(0, 3);
        d = draw(0, 6);
        e = draw(0, 5);
        same("copy " + a + " " + b + " " + c + " " + d + " " + e, x.copy(a, b, c, d, e), y.copy(a, b, c, d, e));
        break;
      }
      case 26: {
        a = draw(0, 3);
        b = draw(0, 2);
        c = draw(0, 6);
        d = draw(0, 5);
        same("people " + a + " " + b + " " + c + " " + d, x.people(a, b, c, d), y.people(a, b, c, d));
        break;
      }
      default: {
        a = drawOne();
        b = draw(0, 5);
        same("taken " + a + " " + b, x.taken(a, b), y.taken(a, b));
        break;
      }
    }
  }

  private void feed(String text) {
    for (int i = 0; i < text.length() && calls < CALLS; i++) {
      int a = text.charAt(i);
      same("feed " + a, x.feed(a), y.feed(a));
    }
  }

  // ---- texts that are drawn

  private String drawText() {
    while (true) {
      String text = "cuts " + either(0) + ";feels " + either(0) + ";\nsends " + (random.nextBoolean() ? "1" : either(0)) + ";";
      if (text.length() <= 160) {
        return text;
      }
    }
  }

  private String either(int depth) {
    String s = both(depth);
    while (random.nextInt(6) == 0) {
      s += " or " + both(depth);
    }
    return s;
  }

  private String both(int depth) {
    String s = not(depth);
    while (random.nextInt(6) == 0) {
      s += " and " + not(depth);
    }
    return s;
  }

  private String not(int depth) {
    if (random.nextInt(6) == 0) {
      return "not " + not(depth + 1);
    }
    String s = sum(depth);
    if (random.nextInt(3) == 0) {
      s += (random.nextBoolean() ? "<" : " = ") + sum(depth);
    }
    return s;
  }

  private String sum(int depth) {
    String s = term(depth);
    while (random.nextInt(3) == 0) {
      s += (random.nextBoolean() ? "+" : "-") + term(depth);
    }
    return s;
  }

  private String term(int depth) {
    String s = simple(depth);
    while (random.nextInt(5) == 0) {
      s += "*" + simple(depth);
    }
    return s;
  }

  private String simple(int depth) {
    int how = random.nextInt(12);
    if (how == 0 && depth < 6) {
      return "-" + simple(depth + 1);
    }
    if (how <= 2 && depth < 6) {
      return "(" + either(depth + 1) + ")";
    }
    if (how <= 5) {
      return "" + random.nextInt(random.nextInt(5) == 0 ? 10000 : 12);
    }
    return Model.NAMES.get(random.nextInt(6));
  }

  private String spoiled(String text) {
    int at = random.nextInt(text.length());
    switch (random.nextInt(4)) {
      case 0:
        return text.substring(0, at);
      case 1:
        return text.substring(0, at) + text.substring(at + 1);
      case 2:
        return text.substring(0, at) + PIECES[random.nextInt(PIECES.length)] + text.substring(at);
      default:
        return text.substring(0, at) + (char) random.nextInt(256) + text.substring(at + 1);
    }
  }

  private String drawTokens() {
    String s = "cuts ";
    while (random.nextInt(12) > 0) {
      s += PIECES[random.nextInt(PIECES.length)];
    }
    return s;
  }
}
