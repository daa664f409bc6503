/**
 * The document sentence by sentence, where it names a bound: the last that is allowed on each side, the
 * first that is not, the empty and the full, the wrap-around. What is refused is RefusalsTest's.
 */
public final class EdgesTest extends Check {
  public static void main(String[] args) {
    layersAndSundays();
    peopleAndMoods();
    cutsByNumbers();
    cutsByMoods();
    feelsOfKinds();
    sendsOfKinds();
    tapeIsFull();
    everyByte();
    everyPrefix();
    tokensAsLongAsCanBe();
    fiveOpen();
    sixTexts();
    nothingStaysOfFaults();
    wrapping();
    truths();
    sundayAtOnce();
    sundaysInThought();
    emptySandwiches();
    againAtForty();
    deadAtForty();
    bestAtBounds();
    leaveOutAtBounds();
    spareAtBounds();
    addAtBounds();
    lettuceAndLeft();
    tellsAtBounds();
    tellsOfKindsAndNumbers();
    filmTruly();
    drawnBySeeds();
    chanceInLowestTerms();
    chanceAtBounds();
    imageKeeps();
    sheetsOfForty();
    cellsOfSorts();
    copyAsTheyWere();
    copyAtEnds();
    peopleAtEnds();
    takenUnder();
    lastCall();
    end("EdgesTest");
  }

  // ---- 1: layers, people

  private static void layersAndSundays() {
    SandwichesSpeak x = ruled("cuts 1;feels 0;sends 1;");
    tell(x, "told 0 1: 1; told 7 1: 1; told 8 1: -1000; told -1 1: -1000; count 1: 8");
    cousins(x, 0, 0);
    tell(x, "sandwich 0 1 0: 255; set 1 0 0: 1; set 1 7 0: 1; sandwich 0 1 0: 126; count 1: 6");
    tell(x, "set 1 7 1: 0; sandwich 0 1 0: 254; set 1 0 1: 0; sandwich 0 1 0: 255; count 1: 8");
    x = new SandwichesSpeak();
    tell(x, "count 2: 0; told 0 0: 0; set 0 0 999: 0; count 2: 999; sunday: -1000; count 2: 999");
    tell(x, "set 0 0 998: 999; sunday: 0; count 2: 999; sunday: -1000; set 0 0 0: 999; sunday: 0; count 2: 1");
    // of does not matter
    tell(x, "set 0 -1 7: 1; set 0 LEAST 8: 7; told MOST 0: 8; told -1 0: 8");
  }

  private static void peopleAndMoods() {
    SandwichesSpeak x = new SandwichesSpeak();
    tell(x, "person 0 0: 0; person 5 9: 1; person 5 0: 2; person 0 9: 3; person 3 3: 4; person 0 0: -4; count 0: 5");
    tell(x, "told 0 4: 0; told 1 4: 5; told 1 2: 9; told 2 2: 0; told 4 3: 0; told 4 4: 3; told 4 2: 3");
    tell(x, "set 3 4 20: 0; set 3 4 -20: 20; set 3 4 21: -1000; set 3 4 -21: -1000; told 4 3: -20");
    tell(x, "set 2 4 9: 3; set 2 4 0: 9; set 2 4 10: -1000; set 2 4 -1: -1000; told 4 2: 0");
    // one more than a bound, and the bound
    int[][] moods = {{18, 1, 19}, {19, 1, 20}, {20, 1, 20}, {-18, -1, -19}, {-19, -1, -20}, {-20, -1, -20},
        {20, 20, 20}, {-20, -20, -20}, {20, -20, 0}};
    for (int[] m : moods) {
      x = cousins(ruled("cuts layer=0;feels theirs;sends 1;"), m[0], m[1]);
      due("mood behind a Sunday of " + m[0] + " and " + m[1], x.told(0, 7), m[2]);
      x.sunday();
      due("mood of " + m[0] + " and " + m[1], x.told(0, 3), m[2]);
    }
  }

  /** Whose person 0 is of a kind, and sends to person 1, a cousin. */
  private static SandwichesSpeak cutter(String cuts, int kind, int number) {
    SandwichesSpeak x = ruled("cuts " + cuts + ";feels 0;sends 1;");
    x.person(kind, number);
    x.person(0, 0);
    return x;
  }

  private static void cutsByNumbers() {
    for (int number = 0; number < 10; number++) {
      int own = 1 << number % 8;
      due("a mother's own", cutter("0", 1, number).sandwich(0, 1, 0), own);
      due("a mother's own, too", cutter("layer=2", 1, number).sandwich(0, 1, 0), own | 4);
      due("a grandmother's own", cutter("0", 3, number).sandwich(0, 1, 0), own & 127);
      due("a grandmother's own, too", cutter("7=layer", 3, number).sandwich(0, 1, 0), own & 127);
      due("a cousin's", cutter("0", 0, number).sandwich(0, 1, 0), 0);
      due("an inlaw's", cutter("1", 2, number).sandwich(0, 1, 0), 85);
      due("a brother's", cutter("1", 4, number).sandwich(0, 1, 0), 85);
      due("a child's", cutter("1", 5, number).sandwich(0, 1, 0), 7);
      SandwichesSpeak x = cutter("0", 1, number);
      x.set(1, number % 8, 0);
      due("a mother's own that isn't used", x.sandwich(0, 1, 0), 0);
    }
  }

  private static void cutsByMoods() {
    for (int mood = -20; mood <= 20; mood++) {
      // number 1: that one sends to person 1 in any mood
      SandwichesSpeak x = cutter("layer=6", 4, 1);
      x.set(3, 0, mood);
      due("a brother's in mood " + mood, x.sandwich(0, 1, 0), mood < 0 ? 64 | 8 : 64);
      x.set(1, 3, 0);
      due("a brother's without layer 3", x.sandwich(0, 1, 0), 64);
      x = cutter("layer=3", 4, 1);
      x.set(3, 0, mood);
      due("a brother's layer 3 in mood " + mood, x.sandwich(0, 1, 0), mood < 0 ? 8 : 0);
      x = cutter("layer=6", 5, 1);
      x.set(3, 0, mood);
      due("a child's in mood " + mood, x.sandwich(0, 1, 0), mood >= 10 ? 255 : 7);
      x = cutter("layer=6", 1, 1);
      x.set(3, 0, mood);
      due("a mother's in mood " + mood, x.sandwich(0, 1, 0), 64 | 2);
      x = cutter("layer<3+mood", 0, 0);
      x.set(3, 0, mood);
      int most = Math.max(0, Math.min(8, 3 + mood));
      due("a cousin's in mood " + mood, x.sandwich(0, 1, 0), (1 << most) - 1);
    }
  }

  private static final String INT_LEAST = "1024*1024*2048", INT_MOST = "1024*1024*2048-1";

  /** What one of a kind feels by layers 3 and 4, the text telling so for any. */
  private static void felt(int kind, int number, String tells, int byThree, int byFour) {
    SandwichesSpeak x = ruled("cuts 1;feels " + tells + ";sends 1;");
    x.person(0, 0);
    x.person(kind, number);
    due("kind " + kind + " number " + number + " feels of " + tells + " by 3", x.sandwich(0, 1, 13), byThree);
    due("kind " + kind + " number " + number + " feels of " + tells + " by 4", x.sandwich(0, 1, 14), byFour);
  }

  private static void felt(int kind, int number, String tells, int both) {
    felt(kind, number, tells, both, both);
  }

  private static void feelsOfKinds() {
    String[] tells = {"-20", "-21", INT_LEAST, "-2", "-1", "0", "1", "19", "20", "21", INT_MOST};
    int[] cousins = {-20, -20, -20, -2, -1, 0, 1, 19, 20, 20, 20};
    int[] mothers = {-1, -1, -1, -1, -1, 0, 1, 19, 20, 20, 20};
    int[] inlaws = {-20, -20, -20, -4, -2, 0, 2, 20, 20, 20, 20};
    int[] grandmothers = {0, 0, 0, 0, 0, 1, 2, 20, 20, 20, 20};
    for (int i = 0; i < tells.length; i++) {
      felt(0, 9, tells[i], cousins[i]);
      felt(1, 9, tells[i], mothers[i]);
      felt(2, 9, tells[i], inlaws[i]);
      felt(3, 9, tells[i], grandmothers[i]);
      felt(5, 9, tells[i], cousins[i], 0);
    }
    felt(2, 0, "9", 18);
    felt(2, 0, "10", 20);
    felt(2, 0, "11", 20);
    felt(2, 0, "-9", -18);
    felt(2, 0, "-10", -20);
    felt(2, 0, "-11", -20);
    // twice this would be below 0 as an int
    felt(2, 0, "1024*1024*1024", 20);
    felt(3, 0, "18", 19);
    felt(4, 0, "-10", -10);
    felt(4, 0, "-1", -1);
    felt(4, 0, "10", 10);
    felt(4, 9, "-10", -19);
    felt(4, 9, "0", -9);
    felt(4, 9, "1", -8);
    felt(4, 9, "9", 0);
    felt(4, 9, "10", 1);
    // layers 0 .. 3 and 4 .. 7 of a child
    SandwichesSpeak x = ruled("cuts 1;feels 5;sends 1;");
    make(x, "person 0 0; person 5 0");
    for (int layer = 0; layer < 8; layer++) {
      due("a child feels by layer " + layer, x.sandwich(0, 1, 10 + layer), layer < 4 ? 5 : 0);
    }
  }

  private static void sendsOfKinds() {
    for (int kind = 0; kind < 6; kind++) {
      boolean always = kind == 1 || kind == 3;
      for (int mood = -20; mood <= 20; mood++) {
        boolean bad = (kind == 2 || kind == 4) && mood < -5;
        for (int yes = 0; yes < 2; yes++) {
          SandwichesSpeak x = ruled("cuts 1;feels 0;sends " + yes + ";");
          x.person(kind, 9);
          x.person(0, 0);
          x.set(3, 0, mood);
          due("kind " + kind + " sends in mood " + mood, x.sandwich(0, 1, 2), always || yes == 1 && !bad ? 1 : 0);
        }
      }
    }
    // a brother and that one's number, which is none of NUMBERS
    for (int number = 0; number < 10; number++) {
      SandwichesSpeak x = ruled("cuts 1;feels 0;sends 0;");
      make(x, "person 0 9; person 0 8; person 4 " + number + "; person 0 7; person 0 3; set 3 2 -20");
      for (int to = 0; to < 5; to++) {
        if (to != 2) {
          due("a brother with " + number + " sends to " + to, x.sandwich(2, to, 2), number == to ? 1 : 0);
        }
      }
    }
  }

  // ---- 1: texts

  private static void tapeIsFull() {
    String text = "cuts layer=5;feels 6;sends 1;";
    SandwichesSpeak x = fed(new SandwichesSpeak(), text + " ".repeat(159 - text.length()));
    tell(x, "count 4: 159; feed 10: 160; feed 32: -4; feed -1: -2; feed 256: -2; count 4: 160; text: 1; count 4: 0");
    tell(x, "feed 0: 1; feed 255: 2; feed -1: -2; feed 256: -2; count 4: 2; text: -100; count 4: 0");
    // the last byte belongs to it
    x = fed(new SandwichesSpeak(), " ".repeat(160 - text.length()) + text);
    tell(x, "feed 59: -4; text: 1; force 1: 0; person 0 0: 0; person 0 0: 1; sandwich 0 1 0: 32; sandwich 0 1 3: 6");
    x = fed(new SandwichesSpeak(), " ".repeat(161 - text.length()) + text);
    tell(x, "count 4: 160; text: -260; count 3: 1");
    x = fed(new SandwichesSpeak(), " ".repeat(159 - text.length()) + text + "1");
    tell(x, "text: -259; count 3: 1; text: -100");
    x = fed(new SandwichesSpeak(), " ".repeat(160));
    tell(x, "text: -260");
    // whatever token is the last byte's, a word that is cut off being none
    for (String end : new String[] {"cuts", "cuts 1", "cuts 9999", "cuts mood", "cuts (", "cuts not", "cuts 1;", "cuts -", "cuts 1="}) {
      textIs(" ".repeat(160 - end.length()) + end, -260);
    }
    for (String end : new String[] {"c", "cut", "l", "laye", "moo", "numbe", "their", "fro", "t", "feel", "send", "o", "an", "no", "#"}) {
      textIs(" ".repeat(160 - end.length()) + end, -260 + end.length());
      textIs("cuts" + " ".repeat(156 - end.length()) + end, -260 + end.length());
    }
    // as many tokens as have room: all of them count
    for (int sum = 68; sum <= 69; sum++) {
      x = fed(new SandwichesSpeak(), "cuts 1" + "+1".repeat(67) + "=" + sum + ";feels 7;sends 1;");
      tell(x, "count 4: 160; text: 1; force 1: 0; person 0 0: 0; person 0 0: 1; sandwich 0 1 13: 7");
      due("the sum of 68 ones is " + sum, x.sandwich(0, 1, 0), sum == 68 ? 255 : 0);
    }
  }

  /** Each byte between two numbers, at the very start, and behind the end. */
  private static void everyByte() {
    for (int b = 0; b < 256; b++) {
      String c = String.valueOf((char) b);
      boolean joins = b >= '0' && b <= '9' || "+-*<=".indexOf(b) >= 0;
      // a blank, a ; : the number behind it can't stand there
      int fault = " \n;".indexOf(b) >= 0 ? -107 : -106;
      due("text with byte " + b, fed(new SandwichesSpeak(), "cuts 1" + c + "1;" + TAIL).text(), joins ? 1 : fault);
      boolean blank = b == 32 || b == 10;
      String text = "cuts 1;" + TAIL;
      due("text behind byte " + b, fed(new SandwichesSpeak(), c + text).text(), blank ? 1 : -100);
      due("byte behind text " + b, fed(new SandwichesSpeak(), text + c).text(), blank ? 1 : -100 - text.length());
      // a text that ends too early behind what an E may begin with; no word has one letter
      boolean begins = b >= '0' && b <= '9' || blank || b == '-' || b == '(';
      due("byte in place of an E " + b, fed(new SandwichesSpeak(), "cuts " + c).text(), begins ? -106 : -105);
    }
  }

  /** A text that ends too early: its size, but for a word that is cut off. */
  private static void everyPrefix() {
    String[] texts = {"cuts layer < 3 + mood ; feels layer - 3 ; sends 1 ;",
        "cuts not(layer=12)or theirs*-(2+number)<from and to;feels 1000;sends 0;",
        "\ncuts  7\n;\n feels\n\n--mood ; sends ((0)) ;"};
    for (String text : texts) {
      int start = 0;
      for (int size = 0; size < text.length(); size++) {
        boolean inWord = isLetter(text, size - 1) && isLetter(text, size);
        start = isLetter(text, size) && !isLetter(text, size - 1) ? size : start;
        String part = text.substring(0, size);
        due("text() of " + part, fed(new SandwichesSpeak(), part).text(), -100 - (inWord ? start : size));
      }
      due("text() of " + text, fed(new SandwichesSpeak(), text).text(), 1);
    }
  }

  private static boolean isLetter(String text, int at) {
    return at >= 0 && at < text.length() && text.charAt(at) >= 'a' && text.charAt(at) <= 'z';
  }

  private static void textIs(String text, int due) {
    due("text() of " + text, fed(new SandwichesSpeak(), text).text(), due);
  }

  private static void tokensAsLongAsCanBe() {
    textIs("cuts 9999;" + TAIL, 1);
    textIs("cuts 0000;" + TAIL, 1);
    textIs("cuts 1+10000;" + TAIL, -107);
    textIs("cuts 1+00000;" + TAIL, -107);
    textIs("cuts 1+123456789012;" + TAIL, -107);
    textIs("cuts 1+9999 9;" + TAIL, -112);
    textIs("cuts 1234mood;" + TAIL, -109);
    textIs("cuts mood1;" + TAIL, -109);
    textIs("cuts notmood;" + TAIL, -105);
    textIs("cuts moodor 1;" + TAIL, -105);
    textIs("cuts moods;" + TAIL, -105);
    textIs("cuts numbermood;" + TAIL, -105);
    textIs("cuts theirsx;" + TAIL, -105);
    textIs("cuts number mood;" + TAIL, -112);
    textIs("cuts " + "z".repeat(155), -105);
    textIs("cuts " + "7".repeat(155), -105);
    textIs("cuts moo;" + TAIL, -105);
    textIs("cutslayer;" + TAIL, -100);
    textIs("cuts1;feels1;sends1;", 1);
    textIs("cuts(1);feels(1);sends(1);", 1);
    textIs("cuts-1;feels-1;sends-1;", 1);
    textIs("cuts not not-layer;" + TAIL, 1);
    textIs("cuts 1or 1and 1;" + TAIL, 1);
    textIs("cuts 1 or1 and1;" + TAIL, 1);
    textIs("cuts 1 orand 1;" + TAIL, -107);
    textIs("cuts 1 < = 1;" + TAIL, -109);
    textIs("cuts 1 - ;" + TAIL, -109);
    textIs("cuts 1 < 1 or 1 = 1 and 1 < 1;" + TAIL, 1);
    textIs("cuts 1 < 1 = 1;" + TAIL, -111);
    textIs("cuts feels;" + TAIL, -105);
    textIs("cuts 1 sends;" + TAIL, -107);
    textIs("cuts ();" + TAIL, -106);
    textIs("cuts 1;feels 1;sends 1", -122);
    textIs("cuts 1;feels 1;sends 1;;", -123);
    textIs("cuts 1;feels 1;sends 1;1", -123);
    textIs("cuts 1;sends 1;feels 1;", -107);
    textIs("feels 1;cuts 1;sends 1;", -100);
  }

  /** Each mix of five of ( not - is fine, and each sixth is a fault there. */
  private static void fiveOpen() {
    String[] openers = {"(", "-", "not "};
    for (int mix = 0; mix < 729; mix++) {
      StringBuilder ahead = new StringBuilder();
      StringBuilder closing = new StringBuilder();
      boolean fine = true;
      int rest = mix, sixth = 0;
      for (int i = 0; i < 6; i++) {
        String opener = openers[rest % 3];
        // behind a - no not can stand
        fine = fine && !(opener.equals("not ") && ahead.toString().endsWith("-"));
        rest /= 3;
        sixth = ahead.length();
        if (i == 5 && fine) {
          textIs("cuts " + ahead + "1" + closing + ";" + TAIL, 1);
          textIs("cuts " + ahead + "1" + closing + "-1;" + TAIL, 1);
          // what belongs to the first five has ended
          textIs("cuts " + ahead + "1" + closing + " or " + ahead + "1" + closing + ";" + TAIL, 1);
        }
        ahead.append(opener);
        closing.append(opener.equals("(") ? ")" : "");
      }
      if (fine) {
        textIs("cuts " + ahead + "1" + closing + ";" + TAIL, -105 - sixth);
      }
    }
    textIs("cuts not 1 < ((((1))));" + TAIL, 1);
    textIs("cuts not 1 < (((((1)))));" + TAIL, -117);
    textIs("cuts not 1 or (((((1)))));" + TAIL, 1);
    textIs("cuts -1 * (((((1)))));" + TAIL, 1);
    textIs("cuts (1 - ((((1)))));" + TAIL, 1);
    textIs("cuts (1 - (((((1))))));" + TAIL, -114);
    textIs("cuts 1;feels ((((((1))))));sends 1;", -118);
    textIs("cuts 1;feels 1;sends ((((((1))))));", -126);
    // a fault leaves nothing open
    SandwichesSpeak x = fed(new SandwichesSpeak(), "cuts (((((");
    tell(x, "text: -110");
    tell(fed(x, "cuts (((((1)))));" + TAIL), "text: 1");
  }

  private static void sixTexts() {
    SandwichesSpeak x = cousins(new SandwichesSpeak(), 0, 0);
    for (int i = 1; i <= 5; i++) {
      due("a fault", fed(x, "cuts ;").text(), -105);
      due("a text", fed(x, "cuts layer=" + i + ";feels " + i + ";sends 1;").text(), i);
      due("texts", x.count(3), i + 1);
      due("not yet", x.force(i + 1), -2);
    }
    tell(fed(x, "cuts 1;" + TAIL), "text: -4; count 4: 23; text: -4; count 4: 23; count 3: 6; count 5: 0");
    for (int i = 5; i >= 1; i--) {
      due("force", x.force(i), i == 5 ? 0 : i + 1);
      due("by the rule", x.sandwich(0, 1, 0), 1 << i);
      due("by the rule", x.sandwich(0, 1, 3), i);
    }
    tell(x, "force 6: -2; force -1: -2; count 5: 1; force 0: 1; sandwich 0 1 0: 7; sandwich 0 1 3: -6");
  }

  /** Of a text with a fault nothing stays: neither in the text that comes next, nor in those that are. */
  private static void nothingStaysOfFaults() {
    String[] faults = {"cuts not not not not 1;feels", "cuts ----1;feels", "cuts 1;feels 2;sends 3", "cuts 7;feels 7;sends 7;;"};
    for (String fault : faults) {
      SandwichesSpeak x = cousins(new SandwichesSpeak(), 0, 0);
      due("a fault", fed(x, fault).text() <= -100 ? 1 : 0, 1);
      tell(x, "count 4: 0; count 3: 1; count 5: 0; force 1: -2; sandwich 0 1 0: 7; sandwich 0 1 3: -6");
      due("a text behind " + fault, fed(x, "cuts 1;feels 1;sends 1;").text(), 1);
      tell(x, "force 1: 0; sandwich 0 1 2: 1; sandwich 0 1 0: 255; sandwich 0 1 3: 8; force 0: 1; sandwich 0 1 0: 7");
    }
  }

  private static void value(String e, int due) {
    SandwichesSpeak x = cousins(ruled("cuts 1;feels " + e + ";sends 1;"), 0, 0);
    due("value of " + e, x.sandwich(0, 1, 10), due);
  }

  private static void wrapping() {
    value(INT_LEAST + " < 0", 1);
    value("0 < " + INT_MOST, 1);
    value("-(" + INT_LEAST + ") = " + INT_LEAST, 1);
    value("-(" + INT_LEAST + ") < 0", 1);
    value(INT_MOST + " + 1 < 0", 1);
    value(INT_MOST + " + 1 = " + INT_LEAST, 1);
    value("0 - 1024*1024*2047 - 1024*1024 = " + INT_LEAST, 1);
    value(INT_LEAST + " < " + INT_MOST, 1);
    value(INT_MOST + " < " + INT_LEAST, 0);
    value("1024*1024*4096 = 0", 1);
    value("1024*1024*4096 + 5", 5);
    value(INT_LEAST + " = 0", 0);
    value("not " + INT_LEAST, 0);
    value(INT_LEAST + " and 1024*64", 1);
    value(INT_LEAST + " or 0", 1);
    value("not 1024*1024*4096", 1);
    value(INT_LEAST, -20);
    value(INT_MOST, 20);
    // 65537 * 65537 wraps to 131073
    value("(1024*64+1)*(1024*64+1)-1024*128", 1);
  }

  private static void truths() {
    // of sends the layer is 0
    tell(cousins(ruled("cuts 1;feels 0;sends layer=0;"), 0, 0), "sandwich 0 1 2: 1; sandwich 0 1 0: 255");
    tell(cousins(ruled("cuts 1;feels 0;sends layer;"), 0, 0), "sandwich 0 1 2: 0; sandwich 0 1 0: 0");
    for (String yes : new String[] {"1", "2", "-1", "256", "1024*64", INT_LEAST, INT_MOST}) {
      SandwichesSpeak x = cousins(ruled("cuts " + yes + ";feels 0;sends " + yes + ";"), 0, 0);
      tell(x, "sandwich 0 1 0: 255; sandwich 0 1 2: 1");
    }
    for (String no : new String[] {"0", "-0", "1-1", "1024*1024*4096", "not 7", "2<1"}) {
      SandwichesSpeak x = cousins(ruled("cuts " + no + ";feels 0;sends 1;"), 0, 0);
      tell(x, "sandwich 0 1 0: 0; sandwich 0 1 1: 0; sandwich 0 1 2: 1");
      x = cousins(ruled("cuts 1;feels 0;sends " + no + ";"), 0, 0);
      tell(x, "sandwich 0 1 0: 0; sandwich 0 1 1: 0; sandwich 0 1 2: 0");
    }
  }

  // ---- 2: Sundays

  private static void sundayAtOnce() {
    // each feels, cuts, sends as all were ahead
    SandwichesSpeak x = cousins(ruled("cuts layer=0;feels theirs;sends 1;"), 1, 2);
    tell(x, "sunday: 6; told 0 3: 3; told 1 3: 3; sunday: 12; sunday: 24; sunday: 40; sunday: 40; count 2: 5");
    x = cousins(ruled("cuts layer=0;feels 1;sends mood=0;"), 0, 0);
    tell(x, "sunday: 2; told 0 3: 1; told 1 3: 1; sunday: 2");
    x = cousins(ruled("cuts layer=mood;feels 1;sends 1;"), 0, 0);
    tell(x, "sunday: 2; sandwich 0 1 0: 2");
    // together: 140 less 140, though each part of it passes a bound
    x = cousins(ruled("cuts layer<7;feels 20-40*(from=2);sends 1;"), 0, 3, 0);
    tell(x, "told 1 7: 3; told 2 7: 20; sunday: 23; told 0 3: 0; told 1 3: 3");
    // the most that can come: 4 times 8 layers
    x = cousins(ruled("cuts 1;feels 20;sends 1;"), -20, -20, -20, -20, -20);
    tell(x, "told 0 6: 32; sandwich 4 0 1: 8; told 4 5: 4; sunday: 100");
    x = cousins(ruled("cuts 1;feels -20;sends 1;"), 20, 20, 20, 20, 20);
    tell(x, "sunday: -100; all 0: -100");
    x = cousins(new SandwichesSpeak(), 13);
    tell(x, "told 0 5: 0; told 0 6: 0; told 0 7: 13; sunday: 13");
  }

  private static void sundaysInThought() {
    SandwichesSpeak x = cousins(ruled("cuts layer=0;feels 1;sends 1;"), -20, -20);
    tell(x, "run 0 0: -40; run 1 0: -38; run 39 0: 38; run 40 0: 40; run 41 0: -1000; run -1 0: -1000");
    tell(x, "run 0 10: -20; run 39 11: 19; run 40 10: 20; run 40 12: -1000; run 40 9: -1000; run 40 2: -1000");
    tell(x, "set 3 0 -19: -20; run 39 10: 20; run 40 10: 20; run 40 0: 40");
    // SUNDAY has no end in thought
    tell(x, "set 0 0 999: 0; run 40 0: 40; told 0 7: -18; best 0 10 1: 10; film 0 0 10: 10; drawn 0: 11; again 2: -1");
    tell(x, "count 2: 999; sunday: -1000; told 0 3: -19");
  }

  private static void emptySandwiches() {
    for (String rule : new String[] {"cuts 0;feels 1;sends 1;", "cuts 1;feels 1;sends 0;"}) {
      SandwichesSpeak x = cousins(ruled(rule), 0, 0, 0, 0, 0);
      tell(x, "run 0 1: 0; run 1 1: 20; run 39 1: 780; run 40 1: 800; run 41 1: -1000; run 40 0: 0");
    }
    tell(new SandwichesSpeak(), "run 40 1: 0; run 40 0: 0; run 0 10: -1000");
    tell(cousins(new SandwichesSpeak(), 5), "run 40 1: 0; run 40 0: 5; run 40 10: 5; run 0 11: -1000");
    // as moods are on each: 1 sends from mood 2 on, and moods go up by 1 by what 0 sends
    SandwichesSpeak x = cousins(ruled("cuts layer=0;feels 1;sends from<mood;"), 1, 0);
    tell(x, "run 1 1: 1; run 2 1: 2; run 3 1: 2; run 4 1: 2; run 40 1: 2");
  }

  private static void againIs(SandwichesSpeak x, int n, int round, int dead) {
    due("again 0", x.again(0), n);
    due("again 1", x.again(1), round);
    due("again 2", x.again(2), dead);
  }

  private static void againAtForty() {
    // from -20 to 19 by 1, then back: 40 moods
    String forty = "cuts layer<2;feels (layer=0)-20*(mood=19);sends 1;";
    againIs(cousins(ruled(forty), -20, -20), 40, 40, -1);
    againIs(cousins(ruled(forty), 3, 3), 40, 40, -1);
    // from -20 to 20: 41 of them
    String more = "cuts layer<2;feels (layer=0)*(mood<20)-20*(mood=20);sends 1;";
    againIs(cousins(ruled(more), -20, -20), -1, -1, -1);
    againIs(cousins(ruled(more), 20, 20), -1, -1, -1);
    // back to 19: from -20 on 39 ahead of these two, 41 behind; from -19 on 40
    String two = "cuts layer=0;feels 1-2*(mood=20);sends 1;";
    againIs(cousins(ruled(two), -20, -20), -1, -1, -1);
    againIs(cousins(ruled(two), -19, -19), 40, 2, -1);
    againIs(cousins(ruled(two), 19, 19), 2, 2, -1);
    // 0 goes up by 1, and 1 down at once: all moods are otherwise till both are at their bounds
    for (int down = 2; down <= 40; down++) {
      int first = Math.min(20, down);
      String fall = "cuts layer<2;feels (to=0)*(layer=0)-to*" + first + "*(layer=0)-to*" + (down - first) + "*layer;sends 1;";
      againIs(cousins(ruled(fall), 0, 20), 21, 1, 20);
    }
    // moods that are another's are not the same: 1 and 2 change places
    againIs(cousins(ruled("cuts layer=0;feels theirs-mood;sends 1;"), 1, 2), 2, 2, -1);
  }

  private static void deadAtForty() {
    String up = "cuts layer=0;feels 1;sends 1;";
    againIs(cousins(ruled(up), 20, 20), 1, 1, 0);
    againIs(cousins(ruled(up), 19, 19), 2, 1, 1);
    againIs(cousins(ruled(up), -18, -18), 39, 1, 38);
    againIs(cousins(ruled(up), -19, -19), 40, 1, 39);
    againIs(cousins(ruled(up), -20, -20), -1, -1, -1);
    // no mood of all: 0 stays, 1 has 2 more to go
    againIs(cousins(ruled("cuts layer=0;feels to;sends 1;"), 0, 18), 3, 1, 2);
    againIs(cousins(ruled("cuts layer=0;feels 1-to;sends 1;"), 18, 0), 3, 1, 2);
    againIs(new SandwichesSpeak(), 1, 1, 0);
    againIs(cousins(new SandwichesSpeak(), -20), 1, 1, 0);
    // five, and just the last one moves
    againIs(cousins(ruled("cuts layer=0;feels (to=4)*(from=0);sends 1;"), 20, -20, 0, 7, -19), 40, 1, 39);
    againIs(cousins(ruled("cuts layer=0;feels (to=4)*(from=0);sends 1;"), 20, -20, 0, 7, -20), -1, -1, -1);
  }

  // ---- 2: what would be best

  private static void bestAtBounds() {
    SandwichesSpeak x = cousins(new SandwichesSpeak(), 4);
    tell(x, "best 0 0 0: 20; best 0 0 1: 20; best 0 10 0: 20; best 0 10 1: 20; best 0 11 0: -1000; best 1 0 0: -1000");
    // all moods are alike in the end
    x = cousins(ruled("cuts 1;feels -20;sends 1;"), 0, 0, 0, 0, 0);
    tell(x, "best 4 1 0: -20; best 4 1 1: -100; best 0 10 0: -20; best 0 10 1: -100; best 0 0 0: 20; best 0 0 1: 20");
    x = cousins(ruled("cuts 1;feels 20;sends 1;"), 0, 0, 0, 0, 0);
    tell(x, "best 4 1 0: -20; best 4 1 1: 100; best 2 10 1: 100; told 2 3: 0");
    // just one mood is best: who is in it sends 5
    for (int mood = -20; mood <= 20; mood += 10) {
      String tells = mood < 0 ? "-" + -mood : "" + mood;
      x = cousins(ruled("cuts layer<4;feels 20*(theirs=" + tells + ");sends from=0;"), 0, -20);
      // in mood -20 one is as good as in mood 20: the least
      due("best mood", x.best(0, 1, 0), mood);
      due("glad in the best mood", x.best(0, 1, 1), mood + 20);
    }
    // 10 Sundays, each 2 more: 20 from 0 on
    x = cousins(ruled("cuts layer<2;feels to=0;sends 1;"), 7, 0);
    tell(x, "best 0 10 0: 0; best 0 10 1: 20; best 0 9 0: 2; best 0 9 1: 20; told 0 3: 7");
  }

  private static void leaveOutAtBounds() {
    tell(new SandwichesSpeak(), "leaveOut 0 0: -1; leaveOut 0 1: 0; leaveOut 40 0: -1; leaveOut 40 1: 0");
    tell(cousins(new SandwichesSpeak(), -7), "leaveOut 40 0: -1; leaveOut 40 1: -7; leaveOut 41 0: -1000");
    // that one counts, too
    SandwichesSpeak x = cousins(ruled("cuts layer=0;feels -1;sends 1;"), 5, 7);
    tell(x, "leaveOut 0 0: -1; leaveOut 0 1: 12; leaveOut 1 0: 0; leaveOut 1 1: 12; leaveOut 40 0: 0; leaveOut 40 1: 12");
    x = cousins(ruled("cuts layer=0;feels -20*(from=4);sends 1;"), 0, 0, 0, 0, 0);
    tell(x, "leaveOut 1 0: 4; leaveOut 1 1: 0; leaveOut 40 0: 4; leaveOut 40 1: 0; leaveOut 0 0: -1; run 1 0: -80");
    x = cousins(ruled("cuts layer=0;feels -5*(to=4);sends 1;"), 0, 0, 0, 0, 20);
    tell(x, "leaveOut 1 0: 4; leaveOut 1 1: 20; run 1 0: 0");
    // alike, and not more than so
    x = cousins(ruled("cuts layer=0;feels -(from=1)-(from=2);sends 1;"), 0, 0, 0);
    tell(x, "leaveOut 1 0: 1; leaveOut 1 1: -1; run 1 0: -4");
    x = cousins(ruled("cuts layer=0;feels 1;sends 1;"), 0, 0, 0);
    tell(x, "leaveOut 1 0: -1; leaveOut 1 1: 6");
    x = cousins(ruled("cuts layer=0;feels from-1;sends 1;"), 0, 0, 0);
    tell(x, "leaveOut 1 0: 0; leaveOut 1 1: 1; run 1 0: 0");
    // all are at the bound, whoever is left out
    x = cousins(ruled("cuts 1;feels -20;sends 1;"), -20, -20, -20, -20, -20);
    tell(x, "leaveOut 40 0: -1; leaveOut 40 1: -100");
  }

  private static void spareAtBounds() {
    tell(new SandwichesSpeak(), "spare 0 0: -1; spare 0 1: 0; spare 40 0: -1; spare 40 1: 0; spare 41 0: -1000");
    SandwichesSpeak x = cousins(ruled("cuts 1;feels -(layer=7);sends 1;"), 0, 0);
    tell(x, "spare 0 0: -1; spare 0 1: 0; spare 1 0: 7; spare 1 1: 0; spare 40 0: 7; spare 40 1: 0; count 1: 8");
    x = cousins(ruled("cuts 1;feels -(layer=0);sends 1;"), 0, 0);
    tell(x, "spare 1 0: 0; spare 1 1: 0; run 1 0: -2");
    x = cousins(ruled("cuts 1;feels -(5<layer);sends 1;"), 0, 0);
    tell(x, "spare 1 0: 6; spare 1 1: -2; set 1 6 0: 1; spare 1 0: 7; spare 1 1: 0; set 1 7 0: 1");
    tell(x, "spare 1 0: -1; spare 1 1: 0");
    x = cousins(ruled("cuts 1;feels 1;sends 1;"), 0, 0);
    tell(x, "spare 1 0: -1; spare 1 1: 16; spare 40 1: 40");
    // what a mother puts in herself
    x = make(ruled("cuts 0;feels -3;sends 1;"), "person 1 7; person 0 0");
    tell(x, "run 1 0: -3; spare 1 0: 7; spare 1 1: 0");
    // a layer that isn't used is no choice, though with it all would feel better
    x = cousins(ruled("cuts 1;feels (layer=6)-2*(layer=2);sends 1;"), 0, 0);
    tell(x, "set 1 6 0: 1; run 1 0: -4; spare 1 0: 2; spare 1 1: 0; set 1 2 0: 1; spare 1 0: -1; spare 1 1: 0");
    x = make(ruled("cuts 0;feels -3;sends 1;"), "person 1 7; person 0 0");
    // none is used
    for (int layer = 0; layer < 8; layer++) {
      x.set(1, layer, 0);
    }
    tell(x, "count 1: 0; spare 1 0: -1; spare 1 1: 0; sandwich 0 1 0: 0; sandwich 0 1 2: 1; sandwich 0 1 17: -3");
  }

  private static void addAtBounds() {
    // -40 comes, and one of the others would be 20 more
    String low = "cuts layer<2;feels 20-40*(layer<2);sends from=0;";
    int[][] lows = {{-20, -1, -20}, {-1, -1, -20}, {0, -1, -20}, {1, 2, -19}, {19, 2, -1}, {20, 2, 0}};
    for (int[] a : lows) {
      SandwichesSpeak x = cousins(ruled(low), 0, a[0]);
      due("add, from " + a[0], x.add(0, 1, 0), a[1]);
      due("add, from " + a[0], x.add(0, 1, 1), a[2]);
    }
    String high = "cuts 0;feels 1+(layer=7);sends 1;";
    int[][] highs = {{-20, 7, -18}, {17, 7, 19}, {18, 7, 20}, {19, 0, 20}, {20, -1, 20}};
    for (int[] a : highs) {
      SandwichesSpeak x = cousins(ruled(high), 0, a[0]);
      due("add, from " + a[0], x.add(0, 1, 0), a[1]);
      due("add, from " + a[0], x.add(0, 1, 1), a[2]);
    }
    // not used, or in it already, or of no more
    SandwichesSpeak x = cousins(ruled("cuts layer<2;feels 1-(2<layer);sends 1;"), 0, 0);
    tell(x, "add 0 1 0: 2; add 0 1 1: 3; set 1 2 0: 1; add 0 1 0: -1; add 0 1 1: 2; set 1 2 1: 0; set 1 0 0: 1");
    tell(x, "add 0 1 0: 2; add 0 1 1: 2");
    x = cousins(ruled("cuts 0;feels -1;sends 1;"), 0, 0);
    tell(x, "add 0 1 0: -1; add 0 1 1: 0");
    x = cousins(ruled("cuts 0;feels 0;sends 1;"), 0, 0);
    tell(x, "add 0 1 0: -1; add 0 1 1: 0");
    // all others' come as they would
    x = cousins(ruled("cuts layer=0;feels from+layer;sends 1;"), 0, 0, 3);
    tell(x, "add 0 2 0: 7; add 0 2 1: 11; add 1 2 0: 7; add 1 2 1: 12; add 2 0 1: 12");
    // felt by moods as they are ahead of it: 0 is in 5 then, and in 2 behind it
    x = cousins(ruled("cuts layer=0;feels theirs*(layer=1)-3*(layer=0);sends 1;"), 5, 3);
    tell(x, "add 0 1 0: 1; add 0 1 1: 5; run 1 10: 2; run 1 11: 0");
    // and cut by them: behind it 0 would cut layer 1 by itself
    x = cousins(ruled("cuts layer<mood;feels 1;sends 1;"), 1, 2);
    tell(x, "run 1 10: 3; run 1 11: 3; add 0 1 0: 1; add 0 1 1: 4; add 1 0 0: 2; add 1 0 1: 4");
  }

  private static void lettuceAndLeft() {
    tell(new SandwichesSpeak(), "all 0: 0; all 1: 0; all 2: -1; all 3: 0");
    tell(cousins(new SandwichesSpeak(), -20), "all 0: -20; all 1: 0; all 2: -1; all 3: 1");
    SandwichesSpeak x = cousins(ruled("cuts layer=0;feels 0;sends 1;"), 20, 20, 20, 20, 20);
    tell(x, "all 0: 100; all 1: 20; all 2: 1; all 3: 0; set 1 0 0: 1; all 1: 0; all 2: -1; all 3: 31");
    x = cousins(ruled("cuts layer=0;feels 0;sends from=4 and to=3;"), 0, 0, 0, 0, 0);
    tell(x, "all 1: 1; all 2: 43; all 3: 23");
    x = cousins(ruled("cuts layer=0;feels 0;sends to=0;"), 0, 0, 0, 0, 0);
    tell(x, "all 1: 4; all 2: 10; all 3: 30");
    x = cousins(ruled("cuts layer=0 or layer=7;feels 0;sends to<4;"), 0, 0, 0, 0, 0);
    tell(x, "all 1: 0; all 2: -1; all 3: 16; set 1 7 0: 1; all 1: 16; all 2: 1; set 1 0 0: 1; set 1 7 1: 0; all 1: 0");
    // what a mother, a brother put in
    x = make(ruled("cuts 0;feels 0;sends 0;"), "person 1 8; person 0 0; person 3 0");
    tell(x, "all 1: 4; all 2: 1; all 3: 0; set 2 0 1: 8; all 1: 2; all 2: 20; set 2 2 7: 0; all 1: 0; all 3: 1");
  }

  // ---- 2: moods that were told

  private static void tellsAll(SandwichesSpeak x, int sheet, int one, int... due) {
    for (int what = 0; what < 6; what++) {
      due("tells " + sheet + " " + one + " " + what, x.tells(sheet, one, what), due[what]);
    }
  }

  private static void tellsAtBounds() {
    // alone, so that a mood stays
    SandwichesSpeak x = cousins(new SandwichesSpeak(), 20);
    x.sheet(0, 0, 0);
    tellsAll(x, 0, 0, -1, 63, 1023, 41, -20, 1);
    int[][] items = {{20, 1, 20}, {21, 0, -100}, {-20, 1, -20}, {-21, 0, -100}, {0, 1, 0}, {LEAST, 0, -100},
        {MOST, 0, -100}};
    x.sheet(1, 2, 1);
    for (int[] i : items) {
      x.cell(1, 0, i[0]);
      int first = i[0] == 20 ? -1 : 0, all = i[0] == 20 ? 1 : 0;
      tellsAll(x, 1, 0, first, 63 * all, 1023 * all, i[1], i[2], all);
    }
    // ten and eleven; the first that is otherwise: 9, and none in the sheet of ten
    x = cousins(ruled("cuts layer=0;feels 1;sends 1;"), -3, 0);
    tell(x, "film 0 0 10: 10; tells 0 0 0: -1; tells 0 1 0: 0; cell 0 9 8: 1; tells 0 0 0: 9; tells 0 0 3: 0");
    tell(x, "cell 0 9 7: 1; tells 0 0 0: -1; cell 0 0 9: 1; tells 0 0 0: 0; cell 0 0 -2: 1; cell 0 5 0: 1; tells 0 0 0: 5");
    tell(x, "sheet 1 0 10: 1; tells 1 0 0: 0; sheet 1 0 11: 1; tells 1 0 0: -1000; tells 1 0 5: -1000; sheet 1 2 40: 1");
    tell(x, "tells 1 0 0: -1000; tells 1 2 0: -1000; tells 1 0 6: -1000; sheet 1 -1 0: 1; tells 1 0 0: -11");
    // at the bound many moods come to the same
    tell(x, "sheet 2 0 1: 1; cell 2 0 20: 1; tells 2 0 3: 2; tells 2 0 4: 19; set 1 0 0: 1; tells 2 0 3: 1; tells 2 0 4: 20");
    // all six texts, then only those that are
    x = cousins(new SandwichesSpeak(), 0);
    x.sheet(0, 0, 10);
    for (int i = 1; i < 6; i++) {
      due("tells by texts", x.tells(0, 0, 5), (1 << i) - 1);
      fed(x, "cuts 1;" + TAIL).text();
    }
    tell(x, "tells 0 0 5: 63; person 0 0: 1; tells 0 0 5: 0");
  }

  private static void tellsOfKindsAndNumbers() {
    SandwichesSpeak x = make(ruled("cuts layer=0;feels number;sends 1;"), "person 0 9; person 0 0");
    // by number 9 an inlaw would feel 18, a grandmother 10, a brother 9 less 9
    make(x, "sheet 0 1 1; cell 0 0 9");
    tellsAll(x, 0, 0, -1, 1 | 2 | 32, 512, 1, 0, 2);
    make(x, "cell 0 0 18");
    tellsAll(x, 0, 0, 0, 4, 0, 1, 9, 0);
    make(x, "cell 0 0 10");
    tellsAll(x, 0, 0, 0, 8, 0, 1, 1, 0);
    make(x, "cell 0 0 0");
    tellsAll(x, 0, 0, 0, 16, 1, 1, -9, 0);
    make(x, "sheet 0 1 0; set 2 0 0");
    tellsAll(x, 0, 0, -1, 63, 1023, 41, -20, 3);
    tell(x, "told 0 2: 0; told 0 4: 0; told 0 3: 0; count 5: 1");
    // the kind changes what one sends, and so what comes back
    x = make(ruled("cuts layer=0;feels theirs;sends 0;"), "person 0 0; person 1 0; set 3 0 2; set 3 1 3");
    // 0 gets 3 twice; a mother would send, so that more comes back, an inlaw feels 6, a brother half of that
    make(x, "film 0 0 2");
    tell(x, "told 0 7: 5; run 2 10: 8; tells 0 0 0: -1; tells 0 0 1: 49; tells 0 0 2: 1023");
  }

  private static void filmTruly() {
    SandwichesSpeak x = cousins(ruled("cuts layer=0;feels to-2*from;sends 1;"), 15, -15);
    make(x, "sheet 0 2 40; sheet 1 0 3; sheet 2 1 2; cell 2 0 3; cell 1 2 9");
    tell(x, "film 0 0 10: 10; cell 0 10 0: -12; copy 0 9 0 9 1: 1; copy 0 0 2 0 0: -13; copy 1 0 0 0 0: 0");
    tell(x, "tells 0 0 0: -1; tells 0 1 0: 0; film 0 1 10: 10; tells 0 1 0: -1; count 2: 0; told 0 3: 15; told 1 3: -15");
    // all of them, read one by one
    for (int i = 0; i < 10; i++) {
      x.film(0, 0, 10);
      x.film(3, 0, 1);
      x.copy(0, i, 3, 0, 1);
      x.set(1, 0, 0);
      int mood = x.tells(3, 0, 4);
      x.set(1, 0, 1);
      due("film, item " + i, mood, x.run(i + 1, 10));
      due("film, item " + i, mood, Math.max(-20, 15 - 2 * (i + 1)));
    }
    tell(x, "film 3 0 0: 0; cell 3 0 0: -12; copy 3 0 1 0 0: 0; copy 3 1 1 0 0: -12; film 3 0 11: -2; film 3 0 -1: -2");
    // the others are as they were
    tell(x, "copy 1 3 1 0 0: 0; copy 1 4 1 0 0: -12; cell 2 2 0: -12; cell 2 1 0: 1; sheet 3 -1 0: 1; film 3 1 1: 1");
  }

  private static void drawnBySeeds() {
    int[] seeds = {0, 1, -1, 2, LEAST, LEAST + 1, MOST, MOST - 1, 123456789, -987654321, 1 << 30, 65536};
    for (int size = 0; size <= 5; size++) {
      SandwichesSpeak x = new SandwichesSpeak();
      for (int one = 0; one < size; one++) {
        x.person(0, 0);
      }
      for (int layer = 0; layer < 8; layer++) {
        x.set(1, layer, 0);
      }
      for (int seed : seeds) {
        long z = seed & 0xffffffffL;
        long glad = 0;
        for (int one = 0; one < size; one++) {
          z = (z * 1103515245L + 12345) & 0xffffffffL;
          glad += (z >> 9) % 41 - 20;
        }
        due("drawn " + seed + " of " + size, x.drawn(seed), glad);
      }
    }
    // 1 more each Sunday for five of them, and the bound: by seed 7 a mood of 20 for 0
    SandwichesSpeak x = cousins(ruled("cuts layer=0;feels to=0;sends 1;"), 0, 0);
    x.set(1, 0, 0);
    int still = x.drawn(7);
    tell(x, "set 1 0 1: 0; drawn 7: " + still + "; set 1 0 0: 1; drawn 0: 1; set 1 0 1: 0; drawn 0: 6; told 0 3: 0");
  }

  private static void chanceInLowestTerms() {
    SandwichesSpeak x = cousins(new SandwichesSpeak(), 0, 0);
    for (int m = 1; m <= 20; m++) {
      for (int k = -20; k <= 40; k += 10) {
        int above = 0;
        for (int seed = 0; seed < m; seed++) {
          above += x.drawn(MOST - 9 + seed) >= k ? 1 : 0;
        }
        int by = 1;
        for (int d = 1; d <= m; d++) {
          by = above % d == 0 && m % d == 0 ? d : by;
        }
        due("chance of " + m + ", " + k, x.chance(MOST - 9, m, k, 0), above / by);
        due("chance of " + m + ", " + k, x.chance(MOST - 9, m, k, 1), m / by);
        x = m % 2 == 0 ? cousins(new SandwichesSpeak(), 0, 0) : x;
      }
    }
  }

  private static void chanceAtBounds() {
    SandwichesSpeak x = cousins(ruled("cuts 1;feels 20;sends 1;"), 0, 0, 0, 0, 0);
    tell(x, "chance 0 20 100 0: 1; chance 0 20 100 1: 1; chance 0 1 100 0: 1; chance 0 1 101 0: " + NO);
    tell(x, "chance 0 21 100 0: " + NO + "; chance 0 0 100 0: " + NO + "; chance 0 20 100 2: " + NO);
    x = cousins(ruled("cuts 1;feels -20;sends 1;"), 0, 0, 0, 0, 0);
    tell(x, "chance 0 20 -100 0: 1; chance 0 20 -100 1: 1; chance 0 20 -99 0: 0; chance 0 20 -99 1: 1");
    tell(x, "chance 0 20 -101 0: " + NO + "; chance 0 20 0 -1: " + NO + "; chance -5 10 -100 1: 1");
    tell(new SandwichesSpeak(), "chance 0 20 0 0: 1; chance 0 20 0 1: 1; chance 0 20 1 0: 0; chance 0 20 1 1: 1");
    // who is in no mood of 20: of seeds MOST, LEAST it is -8, 8; behind LEAST comes LEAST + 1
    x = cousins(new SandwichesSpeak(), 0);
    tell(x, "chance MOST 1 -8 0: 1; chance MOST 1 -7 0: 0; chance MOST 2 8 0: 1; chance MOST 2 8 1: 2; chance MOST 2 9 0: 0");
  }

  private static void imageKeeps() {
    SandwichesSpeak x = make(new SandwichesSpeak(), "person 1 9; person 2 0; set 0 0 999; set 3 0 -20; set 3 1 20");
    tell(x, "back: -3; set 1 7 0: 1; image: 2; set 1 7 1: 0; set 1 0 0: 1; set 2 0 0: 9; set 2 1 9: 0; set 0 0 0: 999");
    tell(x, "set 3 0 20: -20; set 3 1 -20: 20; person 0 0: 2; person 0 0: 3; person 0 0: 4; person 0 0: -4; back: 2");
    tell(x, "count 0: 2; count 1: 7; told 7 1: 0; told 0 1: 1; count 2: 999; sunday: -1000; told 0 2: 9; told 1 2: 0");
    tell(x, "told 0 3: -20; told 1 3: 20; told 2 3: -1000; told 0 4: 1; told 1 4: 2");
    // as often as one likes; a later image is the image
    tell(x, "set 3 0 1: -20; back: 2; told 0 3: -20; person 5 5: 2; set 3 2 6: 0; image: 3; person 0 0: 3; back: 3");
    tell(x, "told 2 3: 6; told 2 4: 5; back: 3; person 4 4: 3; told 3 3: 0; person 4 4: 4; image: 5; back: 5; person 0 0: -4");
    // the rule, but neither texts nor the tape nor sheets
    x = fed(new SandwichesSpeak(), "cuts 1;" + TAIL);
    tell(x, "text: 1; image: 0; force 1: 0; feed 99: 1; sheet 1 1 5: 1; back: 0; count 5: 0; count 3: 2; count 4: 1; cell 1 4 9: 1");
    tell(x, "force 1: 0; image: 0; force 0: 1; back: 0; count 5: 1; text: -100; image: 0; back: 0; count 4: 0");
  }

  // ---- 3: sheets

  private static void sheetsOfForty() {
    for (int sheet = 0; sheet < 4; sheet++) {
      for (int sort = 0; sort < 3; sort++) {
        SandwichesSpeak x = new SandwichesSpeak();
        String s = sheet + " " + sort;
        tell(x, "sheet " + s + " 40: 1; cell " + sheet + " 39 1: 1; cell " + sheet + " 40 1: -12");
        tell(x, "sheet " + s + " 41: -2; sheet " + s + " -1: -14; cell " + sheet + " 39 1: 1; sheet " + s + " 1: 1");
        tell(x, "cell " + sheet + " 0 1: 1; cell " + sheet + " 1 1: -12; cell " + sheet + " -1 1: -12");
        tell(x, "sheet " + s + " 0: 1; cell " + sheet + " 0 1: -12; sheet " + sheet + " -1 41: 1; cell " + sheet + " 0 1: -11");
        tell(x, "sheet " + sheet + " -1 -1: 1; cell " + sheet + " 0 1: -11; cell " + (sheet + 1) % 4 + " 0 1: -11");
        allZero(cousins(new SandwichesSpeak(), 0), sheet, sort);
      }
    }
    SandwichesSpeak x = new SandwichesSpeak();
    tell(x, "sheet 4 0 1: -2; sheet -1 0 1: -2; sheet 0 3 1: -2; sheet 0 -2 1: -2; cell 0 0 0: -11");
    tell(x, "sheet 0 LEAST 1: -2; sheet 0 0 MOST: -2; sheet 0 0 LEAST: -14; cell 0 0 0: -11");
  }

  /** A row that is made anew is all 0, whatever stood there. */
  private static void allZero(SandwichesSpeak x, int sheet, int sort) {
    x.sheet(sheet, sort, 40);
    for (int i = 0; i < 40; i++) {
      due("cell", x.cell(sheet, i, i - 20), 1);
    }
    due("sheet anew", x.sheet(sheet, sort, 40), 1);
    int scratch = (sheet + 1) % 4;
    x.sheet(scratch, sort, 1);
    for (int i = 0; i < 40; i++) {
      due("copy of item " + i, x.copy(sheet, i, scratch, 0, 1), 1);
      due("item " + i + " anew", x.tells(scratch, 0, 0), -1);
    }
    due("people by it", x.people(sheet, sort, 32, 4), 4);
    due("kind and number by it", 10 * x.told(1, 4) + x.told(4, 2), 0);
  }

  /** What a cell of a sort is, once v came to it; -100, if it is no mood. */
  private static void cellIs(int sort, int v, int due) {
    SandwichesSpeak x = cousins(new SandwichesSpeak(), 0);
    x.sheet(1, sort, 1);
    due("cell", x.cell(1, 0, v), 1);
    due("cell of sort " + sort + ", " + v, x.tells(1, 0, 4), due);
  }

  private static void cellsOfSorts() {
    int[][] bytes = {{20, 20}, {-20, -20}, {127, -100}, {128, -100}, {235, -100}, {236, -20}, {255, -1}, {256, 0},
        {276, 20}, {277, -100}, {-236, 20}, {-256, 0}, {-257, -1}, {LEAST, 0}, {MOST, -1}, {65536 + 5, 5}};
    for (int[] b : bytes) {
      cellIs(0, b[0], b[1]);
    }
    int[][] shorts = {{20, 20}, {-20, -20}, {255, -100}, {256, -100}, {32767, -100}, {32768, -100}, {65535, -1},
        {65516, -20}, {65515, -100}, {65536, 0}, {65556, 20}, {65557, -100}, {-65537, -1}, {LEAST, 0}, {MOST, -1}};
    for (int[] s : shorts) {
      cellIs(1, s[0], s[1]);
    }
    int[][] ints = {{20, 20}, {-20, -20}, {21, -100}, {-21, -100}, {256, -100}, {65535, -100}, {65536, -100},
        {LEAST, -100}, {MOST, -100}, {0, 0}};
    for (int[] i : ints) {
      cellIs(2, i[0], i[1]);
    }
  }

  /** Item i of a sheet of a sort, read as the one mood that it tells; sheet 3 is used up. */
  private static void itemIs(SandwichesSpeak x, int sheet, int sort, int i, int due) {
    x.sheet(3, sort, 1);
    due("copy of item " + i, x.copy(sheet, i, 3, 0, 1), 1);
    due("item " + i, x.tells(3, 0, 4), due);
  }

  private static void copyAsTheyWere() {
    for (int sort = 0; sort < 3; sort++) {
      int[][] moves = {{0, 1, 5}, {1, 0, 5}, {0, 3, 3}, {3, 0, 3}, {0, 0, 6}, {2, 4, 2}, {4, 2, 2}, {0, 5, 1}, {5, 0, 1},
          {6, 0, 0}, {0, 6, 0}};
      for (int[] m : moves) {
        SandwichesSpeak x = cousins(new SandwichesSpeak(), 0);
        int[] row = {1, -2, 3, -4, 5, -6};
        x.sheet(0, sort, 6);
        for (int i = 0; i < 6; i++) {
          x.cell(0, i, row[i]);
        }
        int[] then = row.clone();
        for (int i = 0; i < m[2]; i++) {
          then[m[1] + i] = row[m[0] + i];
        }
        due("copy " + m[0] + " " + m[1] + " " + m[2], x.copy(0, m[0], 0, m[1], m[2]), m[2]);
        for (int i = 0; i < 6; i++) {
          itemIs(x, 0, sort, i, then[i]);
        }
      }
    }
    // ints that no byte or short would hold come whole: of the wrong mood each
    SandwichesSpeak x = cousins(new SandwichesSpeak(), 0);
    make(x, "sheet 0 2 2; cell 0 0 65536; cell 0 1 256");
    itemIs(x, 0, 2, 0, -100);
    itemIs(x, 0, 2, 1, -100);
  }

  private static void copyAtEnds() {
    SandwichesSpeak x = cousins(new SandwichesSpeak(), 0);
    make(x, "sheet 0 0 40; sheet 1 0 40; sheet 2 0 0; cell 0 0 7; cell 0 39 9; cell 0 20 8");
    tell(x, "copy 0 0 1 0 40: 40; copy 0 0 1 0 41: -12; copy 0 1 1 0 40: -12; copy 0 0 1 1 40: -12; copy 0 40 1 40 0: 0");
    itemIs(x, 1, 0, 0, 7);
    itemIs(x, 1, 0, 20, 8);
    itemIs(x, 1, 0, 39, 9);
    tell(x, "copy 0 41 1 0 0: -12; copy 0 0 1 41 0: -12; copy 0 39 1 0 1: 1; copy 0 0 1 39 1: 1; copy 0 39 1 0 2: -12");
    itemIs(x, 1, 0, 0, 9);
    itemIs(x, 1, 0, 39, 7);
    tell(x, "copy 2 0 2 0 0: 0; copy 2 0 0 0 0: 0; copy 0 0 2 0 1: -12; copy 2 0 0 0 1: -12; copy 0 0 2 0 0: 0");
    tell(x, "copy 0 1 1 1 MOST: -12; copy 0 MOST 1 MOST 1: -12; copy 0 LEAST 1 0 LEAST: -12; copy 0 0 1 0 -1: -12");
  }

  private static void peopleAtEnds() {
    for (int sort = 0; sort < 3; sort++) {
      SandwichesSpeak x = new SandwichesSpeak();
      make(x, "sheet 1 " + sort + " 10");
      for (int i = 0; i < 10; i++) {
        x.cell(1, i, i % 2 == 0 ? i / 2 + 1 : 10 - i);
      }
      String s = "people 1 " + sort;
      tell(x, s + " 0 6: -2; " + s + " 0 -1: -2; " + s + " 0 0: 0; " + s + " 99 0: 0; count 0: 0; " + s + " 0 5: 5; count 0: 5");
      for (int one = 0; one < 5; one++) {
        due("kind of " + one, x.told(one, 4), one + 1);
        due("number of " + one, x.told(one, 2), 9 - 2 * one);
        due("mood of " + one, x.told(one, 3), 0);
      }
      tell(x, s + " 0 5: 0; " + s + " 1 5: -12; " + s + " 10 0: 0; " + s + " 10 1: -12; " + s + " 9 1: -12");
    }
    // what stood ahead came; those with a bad kind or number are left out
    SandwichesSpeak x = make(new SandwichesSpeak(), "sheet 0 2 9; cell 0 0 5; cell 0 1 9; cell 0 2 -1; cell 0 3 0");
    make(x, "cell 0 4 6; cell 0 5 0; cell 0 6 0; cell 0 7 10; cell 0 8 4");
    tell(x, "people 0 2 0 4: 1; count 0: 1; told 0 4: 5; told 0 2: 9; people 0 2 0 5: -12; count 0: 2; told 1 4: 5");
    tell(x, "people 0 2 -1 1: -12; people 0 2 -2 2: -12; people 0 2 LEAST 5: -12; people 0 2 MOST 5: -12; count 0: 2");
    tell(x, "cell 0 2 LEAST: 1; cell 0 3 MOST: 1; people 0 2 2 1: 0; cell 0 2 2: 1; people 0 2 2 1: 0; cell 0 3 9: 1");
    tell(x, "people 0 2 2 1: 1; cell 0 3 -1: 1; people 0 2 2 1: 0; people 0 2 7 1: 0; cell 0 7 1: 1; people 0 2 7 1: 1");
    tell(x, "people 0 2 0 1: 1; people 0 2 0 1: 0; people 0 2 0 5: -12; count 0: 5; people 0 1 0 1: -13; people 3 2 0 1: -11");
    tell(x, "told 2 4: 2; told 2 2: 9; told 3 4: 1; told 3 2: 4; told 4 4: 5; told 4 2: 9");
    // room for two more of five
    x = make(new SandwichesSpeak(), "person 0 0; person 0 0; person 0 0; sheet 0 0 10");
    tell(x, "people 0 0 0 5: 2; count 0: 5");
    // bytes and shorts have a sign
    x = make(new SandwichesSpeak(), "sheet 0 0 2; cell 0 0 256; cell 0 1 255; sheet 1 1 2; cell 1 0 65541; cell 1 1 65545");
    tell(x, "people 0 0 0 1: 0; cell 0 1 265: 1; people 0 0 0 1: 1; told 0 2: 9; people 1 1 0 1: 1; told 1 4: 5; told 1 2: 9");
  }

  private static void takenUnder() {
    // of each kind the bits of those under which it is, with itself
    int[] under = {1, 3, 5, 11, 21, 33};
    for (int kind = 0; kind < 6; kind++) {
      for (int number = 0; number < 10; number += 9) {
        SandwichesSpeak x = make(new SandwichesSpeak(), "person 0 5; person " + kind + " " + number);
        for (int k = 0; k < 6; k++) {
          due("kind " + kind + " taken for " + k, x.taken(1, k), (under[kind] >> k & 1) != 0 ? number : -13);
        }
        tell(x, "taken 1 6: -2; taken 1 -1: -2; taken 2 6: -2; taken 2 0: -11; taken -1 0: -11; taken 2 5: -11");
      }
    }
    // the number as it is now
    SandwichesSpeak x = make(new SandwichesSpeak(), "person 4 3; set 2 0 8");
    tell(x, "taken 0 0: 8; taken 0 2: 8; taken 0 4: 8; taken 0 1: -13; taken 0 3: -13; taken 0 5: -13");
  }

  /** The 512th call still answers. */
  private static void lastCall() {
    SandwichesSpeak x = cousins(new SandwichesSpeak(), 0, 5);
    for (int call = 5; call < 512; call++) {
      x.sunday();
    }
    due("the last Sunday that is promised", x.count(2), 507);
  }
}
