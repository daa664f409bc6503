import java.util.ArrayList;
import java.util.List;

/**
 * Each refusal of each call, and each call that only asks, in several states: what it answers, and
 * that nothing is otherwise behind it, as far as any call can tell.
 */
public final class RefusalsTest extends Check {
  /** An object is promised to answer so many calls. */
  private static final int CALLS = 512;

  /** What an object was brought to by these lines, and what it answers to each way of looking at it. */
  private static final class Setting {
    final String name;
    final List<String> making = new ArrayList<>();
    final List<List<String>> looks = new ArrayList<>();
    final List<long[]> seen = new ArrayList<>();

    Setting(String name) {
      this.name = name;
    }

    /** Lines, with ; between them. */
    void make(String lines) {
      making.addAll(List.of(lines.split("; ")));
    }

    void feed(String text) {
      for (int i = 0; i < text.length(); i++) {
        making.add("feed " + (int) text.charAt(i));
      }
    }

    /** Made as it should be; it is looked at twice, as each look uses up one of its sheets. */
    void ready() {
      for (int scratch = 0; scratch < 4; scratch += 3) {
        List<String> look = new ArrayList<>();
        askAll(look);
        askSheets(look, scratch);
        askTexts(look);
        askImage(look);
        looks.add(look);
        seen.add(answers(made(), look));
        int calls = making.size() + 1 + look.size();
        due("few enough calls, though " + calls + ", of " + name, calls <= CALLS ? 1 : 0, 1);
      }
    }

    SandwichesSpeak made() {
      SandwichesSpeak x = new SandwichesSpeak();
      for (String line : making) {
        ask(x, line);
      }
      return x;
    }

    /** The line is answered so, and nothing is otherwise behind it. */
    void nothingBy(String line, long want) {
      for (int i = 0; i < looks.size(); i++) {
        SandwichesSpeak x = made();
        due(name + ": " + line, ask(x, line), want);
        long[] now = answers(x, looks.get(i));
        for (int k = 0; k < now.length; k++) {
          due(name + ": behind " + line + ", " + looks.get(i).get(k), now[k], seen.get(i)[k]);
        }
      }
    }

    void refused(long want, String... lines) {
      for (String line : lines) {
        nothingBy(line, want);
      }
    }

    /** Calls that only ask: whatever they answer, nothing is otherwise behind them. */
    void onlyAsks(String... lines) {
      for (String line : lines) {
        nothingBy(line, ask(made(), line));
      }
    }
  }

  private static long[] answers(SandwichesSpeak x, List<String> lines) {
    long[] all = new long[lines.size()];
    for (int i = 0; i < all.length; i++) {
      all[i] = ask(x, lines.get(i));
    }
    return all;
  }

  // ---- what an object is, asked from outside

  private static void askAll(List<String> look) {
    for (int what = 0; what < 6; what++) {
      look.add("count " + what);
    }
    for (int layer = 0; layer < 8; layer++) {
      look.add("told " + layer + " 1");
    }
    for (int one = 0; one < 5; one++) {
      for (int what = 2; what < 8; what++) {
        look.add("told " + one + " " + what);
      }
      look.add("taken " + one + " " + one);
    }
    look.addAll(List.of("sandwich 0 1 0", "sandwich 1 0 0", "sandwich 2 0 3", "sandwich 0 2 17", "run 2 0",
        "run 3 1", "run 1 11", "again 0", "again 2", "all 0", "all 1", "all 3", "best 0 1 1", "leaveOut 1 1",
        "spare 1 1", "add 0 1 1", "drawn 7", "chance 3 4 0 0"));
  }

  /** What sort the sheets are of, how many items they have, and some of these; scratch is used up. */
  private static void askSheets(List<String> look, int scratch) {
    look.add("person 0 0");
    // where no layer is used, moods stay, so that tells() reads an item
    for (int layer = 0; layer < 8; layer++) {
      look.add("set 1 " + layer + " 0");
    }
    for (int sort = 0; sort < 3; sort++) {
      look.add("sheet " + scratch + " " + sort + " 1");
      for (int sheet = 0; sheet < 4; sheet++) {
        for (int item : sheet == scratch ? new int[0] : new int[] {0, 1, 2, 39}) {
          look.add("copy " + sheet + " " + item + " " + scratch + " 0 1");
          look.add("tells " + scratch + " 0 4");
        }
      }
    }
    for (int sheet = 0; sheet < 4; sheet++) {
      for (int size : new int[] {0, 1, 2, 3, 4, 10, 11, 39, 40}) {
        look.add("copy " + sheet + " " + size + " " + sheet + " " + size + " 0");
      }
    }
  }

  private static void askTexts(List<String> look) {
    look.add("text");
    for (int layer = 0; layer < 8; layer++) {
      look.add("set 1 " + layer + " 1");
    }
    for (int text = 0; text < 6; text++) {
      look.addAll(List.of("force " + text, "sandwich 0 1 0", "sandwich 0 1 3", "sandwich 1 0 2"));
    }
  }

  private static void askImage(List<String> look) {
    look.addAll(List.of("back", "count 0", "count 1", "count 2", "count 5"));
    for (int one = 0; one < 5; one++) {
      look.add("told " + one + " 2");
      look.add("told " + one + " 3");
    }
  }

  // ---- states

  private static Setting fresh() {
    Setting s = new Setting("a new object");
    s.ready();
    return s;
  }

  /** Three people, three texts, three sheets, an image, a tape. */
  private static Setting busy() {
    Setting s = new Setting("a busy one");
    s.make("person 1 4; person 2 7; set 3 0 -3; set 3 1 8; set 1 6 0; set 0 0 33; image");
    s.make("person 4 1; set 3 2 -4; set 3 0 5; set 2 1 9; set 1 2 0; set 0 0 41");
    s.feed("cuts layer<5;feels layer-2;sends 1;");
    s.make("text");
    s.feed("cuts mood<layer;feels 2-layer;sends to;");
    s.make("text; force 1");
    s.feed("cuts 1;feels 3;sends 0;");
    s.make("sheet 0 0 4; cell 0 0 5; cell 0 1 -6; cell 0 2 7; cell 0 3 1");
    s.make("sheet 1 1 11; cell 1 0 -9; cell 1 1 12; cell 1 10 4");
    s.make("sheet 2 2 3; cell 2 0 20; cell 2 1 -20; cell 2 2 3");
    s.ready();
    return s;
  }

  /** No room more for people, texts; no Sunday more; sheets as long as can be. */
  private static Setting full() {
    Setting s = new Setting("a full one");
    s.make("person 0 0; person 1 1; person 2 2; person 3 3; person 5 9; set 0 0 999; set 3 1 -6; set 3 4 20");
    for (int i = 1; i <= 5; i++) {
      s.feed("cuts 1;feels " + i + ";sends 1;");
      s.make("text");
    }
    s.feed("x");
    s.make("sheet 0 0 40; sheet 1 1 40; sheet 2 2 40; sheet 3 0 40; cell 0 39 7; cell 1 39 8; cell 2 39 9");
    s.ready();
    return s;
  }

  /** A tape as long as can be, and nobody. */
  private static Setting longTape() {
    Setting s = new Setting("one with a long tape");
    s.feed(" ".repeat(137) + "cuts 1;feels 9;sends 1;");
    s.ready();
    return s;
  }

  public static void main(String[] args) {
    Setting fresh = fresh(), busy = busy(), full = full(), longTape = longTape();
    for (Setting s : List.of(fresh, busy, full, longTape)) {
      anyLayersPeople(s);
      anyTexts(s);
      anySandwiches(s);
      anyBest(s);
      anyTold(s);
      anyHost(s);
    }
    ofNew(fresh);
    ofBusy(busy);
    ofFull(full);
    longTape.refused(FULL, "feed 0", "feed 32", "feed 255");
    longTape.refused(BAD, "feed -1", "feed 256");
    asking(fresh);
    asking(busy);
    asking(full);
    end("RefusalsTest");
  }

  // ---- what is refused in any state

  private static void anyLayersPeople(Setting s) {
    s.refused(REFUSED, "set -1 0 0", "set 4 0 0", "set LEAST 0 0", "set MOST 0 0");
    s.refused(REFUSED, "set 0 0 -1", "set 0 0 1000", "set 0 0 LEAST", "set 0 0 MOST");
    s.refused(REFUSED, "set 1 -1 0", "set 1 8 0", "set 1 LEAST 0", "set 1 MOST 1", "set 1 32 0", "set 1 0 -1",
        "set 1 0 2", "set 1 7 LEAST", "set 1 7 MOST");
    s.refused(REFUSED, "set 2 -1 0", "set 2 5 0", "set 2 LEAST 0", "set 2 MOST 0", "set 2 0 -1", "set 2 0 10",
        "set 2 0 LEAST", "set 2 0 MOST");
    s.refused(REFUSED, "set 3 -1 0", "set 3 5 0", "set 3 LEAST 0", "set 3 MOST 0", "set 3 0 -21", "set 3 0 21",
        "set 3 0 LEAST", "set 3 0 MOST");
    s.refused(BAD, "person -1 0", "person 6 0", "person 0 -1", "person 0 10", "person LEAST 0", "person MOST 0",
        "person 0 LEAST", "person 0 MOST");
    s.refused(REFUSED, "told 0 -1", "told 0 8", "told 0 LEAST", "told 0 MOST", "told -1 1", "told 8 1",
        "told LEAST 1", "told MOST 1");
    for (int what = 2; what < 8; what++) {
      s.refused(REFUSED, "told -1 " + what, "told 5 " + what, "told LEAST " + what, "told MOST " + what);
    }
  }

  private static void anyTexts(Setting s) {
    s.refused(BAD, "feed -1", "feed 256", "feed LEAST", "feed MOST");
    s.refused(BAD, "force -1", "force 6", "force LEAST", "force MOST");
  }

  private static void anySandwiches(Setting s) {
    s.refused(REFUSED, "sandwich 0 0 0", "sandwich 1 1 3", "sandwich 4 4 10", "sandwich -1 0 0", "sandwich 0 -1 0",
        "sandwich 5 0 0", "sandwich 0 5 0", "sandwich LEAST MOST 0", "sandwich -1 -1 0");
    s.refused(REFUSED, "sandwich 0 1 -1", "sandwich 0 1 4", "sandwich 0 1 9", "sandwich 0 1 18",
        "sandwich 0 1 LEAST", "sandwich 0 1 MOST");
    s.refused(REFUSED, "run -1 0", "run 41 0", "run LEAST 0", "run MOST 1", "run 0 -1", "run 0 2", "run 0 9",
        "run 0 15", "run 0 LEAST", "run 0 MOST");
    s.refused(BAD, "again -1", "again 3", "again LEAST", "again MOST");
    s.refused(REFUSED, "all -1", "all 4", "all LEAST", "all MOST");
  }

  private static void anyBest(Setting s) {
    s.refused(REFUSED, "best -1 0 0", "best 5 0 0", "best LEAST 0 0", "best MOST 0 0", "best 0 -1 0", "best 0 11 0",
        "best 0 LEAST 0", "best 0 MOST 0", "best 0 0 -1", "best 0 0 2", "best 0 0 LEAST", "best 0 0 MOST");
    for (String call : List.of("leaveOut", "spare")) {
      s.refused(REFUSED, call + " -1 0", call + " 41 0", call + " LEAST 0", call + " MOST 0", call + " 0 -1",
          call + " 0 2", call + " 0 LEAST", call + " 0 MOST");
    }
    s.refused(REFUSED, "add -1 0 0", "add 0 -1 0", "add 5 0 0", "add 0 5 0", "add 0 0 0", "add 4 4 1", "add -1 -1 0",
        "add LEAST 0 0", "add 0 MOST 0", "add 0 1 -1", "add 0 1 2", "add 0 1 LEAST", "add 0 1 MOST");
  }

  private static void anyTold(Setting s) {
    s.refused(REFUSED, "tells -1 0 0", "tells 4 0 0", "tells LEAST 0 0", "tells MOST 0 0", "tells 0 -1 0",
        "tells 0 5 0", "tells 0 LEAST 0", "tells 0 MOST 0", "tells 0 0 -1", "tells 0 0 6", "tells 0 0 LEAST",
        "tells 0 0 MOST");
    s.refused(BAD, "film -1 0 0", "film 4 0 0", "film LEAST 0 0", "film MOST 0 0", "film 0 -1 0", "film 0 5 0",
        "film 0 LEAST 0", "film 0 MOST 0", "film 0 0 -1", "film 0 0 11", "film 0 0 LEAST", "film 0 0 MOST");
    s.refused(NO, "chance 0 0 0 0", "chance 0 21 0 0", "chance 0 -1 0 0", "chance 0 LEAST 0 0", "chance 0 MOST 0 0",
        "chance 0 1 -101 0", "chance 0 1 101 0", "chance 0 1 LEAST 0", "chance 0 1 MOST 0", "chance 0 1 0 -1",
        "chance 0 1 0 2", "chance 0 1 0 LEAST", "chance 0 1 0 MOST");
    s.refused(BAD, "count -1", "count 6", "count LEAST", "count MOST");
  }

  private static void anyHost(Setting s) {
    s.refused(BAD, "sheet -1 0 0", "sheet 4 0 0", "sheet LEAST 0 0", "sheet MOST 0 0", "sheet 0 -2 0", "sheet 0 3 0",
        "sheet 0 LEAST 0", "sheet 0 MOST 0", "sheet 0 0 41", "sheet 1 1 41", "sheet 2 2 MOST", "sheet 4 -1 0",
        "sheet 4 0 -1", "sheet 0 3 -1", "sheet 0 -2 -1", "sheet 0 3 41");
    s.refused(BELOW_ZERO, "sheet 0 0 -1", "sheet 1 1 LEAST", "sheet 3 2 -1");
    s.refused(BAD, "cell -1 0 0", "cell 4 0 0", "cell LEAST 0 0", "cell MOST 0 0", "cell 4 -1 0");
    s.refused(BAD, "copy -1 0 0 0 0", "copy 4 0 0 0 0", "copy 0 0 -1 0 0", "copy 0 0 4 0 0", "copy LEAST 0 0 0 0",
        "copy 0 0 MOST 0 0", "copy 3 0 4 0 -1", "copy 4 -1 3 -1 -1");
    s.refused(BAD, "people -1 0 0 0", "people 4 0 0 0", "people LEAST 0 0 0", "people MOST 0 0 0", "people 0 -1 0 0",
        "people 0 3 0 0", "people 0 LEAST 0 0", "people 0 MOST 0 0", "people 0 0 0 -1", "people 0 0 0 6",
        "people 0 0 0 LEAST", "people 0 0 0 MOST", "people 3 3 -1 1", "people 3 1 -1 6");
    s.refused(BAD, "taken 0 -1", "taken 0 6", "taken 0 LEAST", "taken 0 MOST", "taken 9 6", "taken -1 -1");
    s.refused(MISSING, "taken -1 0", "taken 5 0", "taken LEAST 5", "taken MOST 5");
  }

  // ---- what is refused in one of them

  private static void ofNew(Setting s) {
    s.refused(REFUSED, "set 2 0 0", "set 3 0 0");
    for (int what = 2; what < 8; what++) {
      s.refused(REFUSED, "told 0 " + what);
    }
    s.refused(BAD, "force 1");
    s.refused(REFUSED, "sandwich 0 1 0", "run 0 10", "best 0 0 0", "add 0 1 0");
    // no such person is named ahead of a sheet that is missing
    s.refused(REFUSED, "tells 0 0 0");
    s.refused(BAD, "film 0 0 0");
    s.refused(STATE, "back");
    // the tape is as empty as it was
    s.refused(-100, "text");
    s.refused(MISSING, "cell 0 0 0", "cell 3 -1 0", "copy 0 0 0 0 0", "copy 0 -1 3 0 -1", "people 0 0 0 0",
        "people 3 2 -1 5", "taken 0 0");
  }

  private static void ofBusy(Setting s) {
    s.refused(REFUSED, "set 2 3 0", "set 3 3 0", "told 3 2", "told 3 7", "sandwich 0 3 0", "sandwich 3 0 2",
        "run 0 13", "best 3 0 0", "add 0 3 0", "add 3 0 0");
    s.refused(BAD, "force 3", "film 0 3 0", "film 3 3 1");
    // one of people, what: ahead of a missing sheet; a missing one ahead of nothing
    s.refused(REFUSED, "tells 3 3 0", "tells 3 0 6", "tells 3 -1 -1");
    s.refused(MISSING, "tells 3 0 0", "tells 3 2 5");
    // eleven are too many
    s.refused(REFUSED, "tells 1 0 0", "tells 1 1 1", "tells 1 2 2", "tells 1 0 3", "tells 1 0 4", "tells 1 0 5");
    s.refused(MISSING, "cell 3 0 0", "cell 3 -1 0", "cell 3 LEAST 0");
    s.refused(OUTSIDE, "cell 0 -1 9", "cell 0 4 9", "cell 1 11 9", "cell 2 3 9", "cell 0 LEAST 9", "cell 2 MOST 9");
    s.refused(MISSING, "copy 0 0 3 0 0", "copy 3 0 0 0 0", "copy 3 0 3 0 0", "copy 0 -1 3 0 1", "copy 3 0 0 9 -1");
    s.refused(OTHER_SORT, "copy 0 0 1 0 0", "copy 1 0 2 0 1", "copy 2 0 0 0 1", "copy 0 -1 1 0 1", "copy 0 0 2 9 1",
        "copy 1 0 0 0 -1");
    s.refused(OUTSIDE, "copy 0 -1 0 0 1", "copy 0 0 0 -1 1", "copy 0 0 0 0 -1", "copy 0 0 0 0 5", "copy 0 1 0 0 4",
        "copy 0 0 0 1 4", "copy 0 4 0 0 1", "copy 0 0 0 4 1", "copy 0 5 0 0 0", "copy 0 0 0 5 0", "copy 2 2 2 0 2",
        "copy 2 1 2 1 MOST", "copy 2 MOST 2 0 1", "copy 2 MOST 2 MOST MOST", "copy 2 0 2 0 LEAST",
        "copy 2 LEAST 2 LEAST LEAST", "copy 0 -1 0 -1 0");
    s.refused(OTHER_SORT, "people 0 1 0 1", "people 0 2 0 0", "people 1 0 -1 1", "people 2 1 MOST 5");
    s.refused(MISSING, "people 3 0 0 0", "people 3 1 0 1", "people 3 2 -1 5");
    s.refused(OUTSIDE, "people 0 0 -1 1", "people 0 0 3 1", "people 0 0 4 1", "people 1 1 10 1", "people 2 2 2 1",
        "people 2 2 -2 2", "people 0 0 LEAST 1", "people 0 0 MOST 1", "people 2 2 MOST 5");
    // outside in the end, and nobody comes by what stands ahead: 20 is no kind
    s.refused(OUTSIDE, "people 2 2 0 2");
    s.refused(MISSING, "taken 3 0", "taken 4 5");
    s.refused(OTHER_SORT, "taken 0 2", "taken 0 3", "taken 0 4", "taken 0 5", "taken 1 1", "taken 1 3", "taken 1 4",
        "taken 1 5", "taken 2 1", "taken 2 3", "taken 2 5");
  }

  private static void ofFull(Setting s) {
    s.refused(FULL, "person 0 0", "person 5 9", "text");
    // a bad number is named ahead of what is full
    s.refused(BAD, "person 6 0", "person 0 10");
    s.refused(REFUSED, "sunday");
    s.refused(STATE, "back");
    s.refused(REFUSED, "tells 0 0 0", "tells 1 4 5");
    s.refused(OUTSIDE, "cell 0 40 1", "copy 0 0 3 1 40", "copy 0 1 3 0 40", "people 0 0 39 1");
    // nobody has room
    s.refused(0, "people 0 0 0 5", "people 1 1 30 5", "people 2 2 40 0");
  }

  // ---- what only asks

  private static void asking(Setting s) {
    for (int what = 0; what < 8; what++) {
      s.onlyAsks("told 0 " + what, "told 2 " + what);
    }
    s.onlyAsks("sandwich 0 1 0", "sandwich 0 1 1", "sandwich 2 0 2", "sandwich 1 2 3", "sandwich 0 1 10",
        "sandwich 0 1 17");
    s.onlyAsks("run 0 0", "run 1 0", "run 40 0", "run 40 1", "run 40 12", "again 0", "again 1", "again 2");
    s.onlyAsks("all 0", "all 1", "all 2", "all 3", "best 0 0 0", "best 1 10 1", "leaveOut 0 0", "leaveOut 40 1",
        "spare 0 0", "spare 40 1", "add 0 1 0", "add 2 0 1");
    for (int what = 0; what < 6; what++) {
      s.onlyAsks("tells 2 0 " + what, "tells 0 2 " + what, "count " + what);
    }
    s.onlyAsks("drawn 0", "drawn LEAST", "chance 0 20 0 0", "chance MOST 20 -100 1", "taken 0 0", "taken 2 2");
  }
}
