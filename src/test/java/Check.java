/** What the tests share: answers that are compared and counted, and objects in a state that is known. */
abstract class Check {
  static final String TAIL = "feels 1;sends 1;";
  static final long NO = -4611686018427387904L;
  static final int LEAST = Integer.MIN_VALUE, MOST = Integer.MAX_VALUE;
  static final int BAD = -2, STATE = -3, FULL = -4, REFUSED = -1000;
  static final int MISSING = -11, OUTSIDE = -12, OTHER_SORT = -13, BELOW_ZERO = -14;

  private static int wrong = 0;
  private static int asked = 0;

  static void due(String call, long got, long want) {
    asked++;
    if (got != want) {
      wrong++;
      System.out.println(call + " answered " + got + ", due is " + want);
    }
  }

  /** Ends the test: with exit code 1, if an answer was wrong. */
  static void end(String test) {
    System.out.println(test + ": " + asked + " answers, " + wrong + " wrong");
    System.exit(wrong == 0 ? 0 : 1);
  }

  static SandwichesSpeak fed(SandwichesSpeak x, String text) {
    for (int i = 0; i < text.length(); i++) {
      x.feed(text.charAt(i));
    }
    return x;
  }

  /** Whose rule is this text. */
  static SandwichesSpeak ruled(String text) {
    SandwichesSpeak x = fed(new SandwichesSpeak(), text);
    due("text() of " + text, x.text(), 1);
    due("force(1)", x.force(1), 0);
    return x;
  }

  /** So many cousins, with moods. */
  static SandwichesSpeak cousins(SandwichesSpeak x, int... moods) {
    for (int i = 0; i < moods.length; i++) {
      due("person(0, 0)", x.person(0, 0), i);
      due("set(3, ..)", x.set(3, i, moods[i]), 0);
    }
    return x;
  }

  /** Asks lines with ; between them, each with the answer that is due behind a : */
  static SandwichesSpeak tell(SandwichesSpeak x, String lines) {
    for (String line : lines.split("; ")) {
      String[] halves = line.split(": ");
      due(lines.length() > 200 ? line : line + " of " + lines, ask(x, halves[0]), Long.parseLong(halves[1]));
    }
    return x;
  }

  /** Asks lines with ; between them, whatever they answer. */
  static SandwichesSpeak make(SandwichesSpeak x, String lines) {
    for (String line : lines.split("; ")) {
      ask(x, line);
    }
    return x;
  }

  /** Asks what a line tells: the call's name and its numbers, LEAST and MOST being the int's bounds. */
  static long ask(SandwichesSpeak x, String line) {
    String[] words = line.split(" ");
    int[] a = new int[words.length - 1];
    for (int i = 0; i < a.length; i++) {
      String word = words[i + 1];
      a[i] = word.equals("LEAST") ? LEAST : word.equals("MOST") ? MOST : Integer.parseInt(word);
    }
    return ask(x, words[0], a);
  }

  private static long ask(SandwichesSpeak x, String call, int[] a) {
    switch (call) {
      case "set": return x.set(a[0], a[1], a[2]);
      case "person": return x.person(a[0], a[1]);
      case "told": return x.told(a[0], a[1]);
      case "feed": return x.feed(a[0]);
      case "text": return x.text();
      case "force": return x.force(a[0]);
      case "sandwich": return x.sandwich(a[0], a[1], a[2]);
      case "sunday": return x.sunday();
      case "run": return x.run(a[0], a[1]);
      case "again": return x.again(a[0]);
      case "all": return x.all(a[0]);
      case "best": return x.best(a[0], a[1], a[2]);
      case "leaveOut": return x.leaveOut(a[0], a[1]);
      case "spare": return x.spare(a[0], a[1]);
      case "add": return x.add(a[0], a[1], a[2]);
      case "tells": return x.tells(a[0], a[1], a[2]);
      case "film": return x.film(a[0], a[1], a[2]);
      case "drawn": return x.drawn(a[0]);
      case "chance": return x.chance(a[0], a[1], a[2], a[3]);
      case "image": return x.image();
      case "back": return x.back();
      case "count": return x.count(a[0]);
      case "sheet": return x.sheet(a[0], a[1], a[2]);
      case "cell": return x.cell(a[0], a[1], a[2]);
      case "copy": return x.copy(a[0], a[1], a[2], a[3], a[4]);
      case "people": return x.people(a[0], a[1], a[2], a[3]);
      case "taken": return x.taken(a[0], a[1]);
      default: throw new IllegalArgumentException(call);
    }
  }
}
