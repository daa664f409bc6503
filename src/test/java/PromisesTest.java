/** For each promise of the document, answers that were reckoned by hand from its words. */
public final class PromisesTest extends Check {
  public static void main(String[] args) {
    aNewObject();
    set();
    person();
    told();
    feed();
    textPlain();
    textFaults();
    textOpen();
    textValues();
    textFull();
    force();
    sandwichCuts();
    sandwichSends();
    sandwichFeels();
    sandwichNames();
    sandwichRefusals();
    sunday();
    run();
    again();
    all();
    best();
    leaveOut();
    spare();
    add();
    tells();
    film();
    drawn();
    chance();
    imageAndBack();
    count();
    sheet();
    cell();
    copy();
    people();
    taken();
    end("PromisesTest");
  }

  private static void aNewObject() {
    due("NONE", SandwichesSpeak.NONE, -1);
    due("BAD", SandwichesSpeak.BAD, -2);
    due("STATE", SandwichesSpeak.STATE, -3);
    due("FULL", SandwichesSpeak.FULL, -4);
    due("NO", SandwichesSpeak.NO, NO);
    SandwichesSpeak x = new SandwichesSpeak();
    int[] counts = {0, 8, 0, 1, 0, 0};
    for (int i = 0; i < 6; i++) {
      due("new: count " + i, x.count(i), counts[i]);
    }
    for (int i = 0; i < 8; i++) {
      due("new: layer " + i, x.told(i, 1), 1);
    }
    for (int i = 0; i < 4; i++) {
      due("new: sheet " + i, x.cell(i, 0, 0), -11);
    }
    due("new: nobody", x.told(0, 3), -1000);
    due("new: glad", x.all(0), 0);
    due("new: left", x.all(3), 0);
    due("new: back", x.back(), -3);
  }

  private static void set() {
    SandwichesSpeak x = new SandwichesSpeak();
    due("set sunday", x.set(0, 77, 999), 0);
    due("set sunday", x.set(0, LEAST, 5), 999);
    due("set sunday", x.set(0, 0, -1), -1000);
    due("set sunday", x.set(0, 0, 1000), -1000);
    due("set sunday kept", x.told(0, 0), 5);
    due("set sunday", x.set(0, 0, 0), 5);
    due("set sunday kept", x.told(0, 0), 0);
    for (int l = 0; l < 8; l++) {
      due("set layer", x.set(1, l, 0), 1);
      due("set layer", x.set(1, l, 0), 0);
      due("set layer", x.told(l, 1), 0);
      due("layers used", x.count(1), 7 - l);
    }
    due("set layer", x.set(1, 7, 1), 0);
    due("set layer", x.set(1, 7, 1), 1);
    due("set layer", x.told(7, 1), 1);
    due("set layer", x.told(6, 1), 0);
    int[][] bad = {{1, -1, 0}, {1, 8, 0}, {1, 0, 2}, {1, 0, -1}, {2, 0, 0}, {3, 0, 0}, {4, 0, 0}, {-1, 0, 0},
        {LEAST, 0, 0}, {MOST, 0, 0}};
    for (int[] b : bad) {
      due("set " + b[0] + " " + b[1] + " " + b[2], x.set(b[0], b[1], b[2]), -1000);
    }
    x.person(0, 4);
    x.person(0, 6);
    due("set 4", x.set(4, 0, 0), -1000);
    due("set -1", x.set(-1, 0, 0), -1000);
    due("set number", x.set(2, 1, 9), 6);
    due("set number", x.set(2, 1, 0), 9);
    due("set number", x.set(2, 0, 10), -1000);
    due("set number", x.set(2, 0, -1), -1000);
    due("set number", x.set(2, 2, 0), -1000);
    due("set number", x.set(2, -1, 0), -1000);
    due("number kept", x.told(0, 2), 4);
    due("set mood", x.set(3, 1, 20), 0);
    due("set mood", x.set(3, 1, -20), 20);
    due("set mood", x.set(3, 1, 21), -1000);
    due("set mood", x.set(3, 1, -21), -1000);
    due("set mood", x.set(3, 2, 0), -1000);
    due("mood kept", x.told(1, 3), -20);
    due("mood kept", x.told(0, 3), 0);
    due("number kept", x.told(1, 2), 0);
  }

  private static void person() {
    SandwichesSpeak x = new SandwichesSpeak();
    int[][] bad = {{-1, 0}, {6, 0}, {0, -1}, {0, 10}, {LEAST, MOST}};
    for (int[] b : bad) {
      due("person " + b[0] + " " + b[1], x.person(b[0], b[1]), -2);
    }
    for (int i = 0; i < 5; i++) {
      due("person", x.person(i + 1, 9 - i), i);
      due("kind", x.told(i, 4), i + 1);
      due("number", x.told(i, 2), 9 - i);
      due("mood", x.told(i, 3), 0);
    }
    due("person", x.person(0, 0), -4);
    due("person", x.person(0, 10), -2);
    due("people", x.count(0), 5);
  }

  private static void told() {
    SandwichesSpeak x = cousins(new SandwichesSpeak(), 0, 5, -4);
    // by TEXT 0: of 0 the layers 0 .. 2 (feels -6), of 1 all (4), of 2 none
    int[] filled = {2, 2, 0}, come = {8, 3, 11}, next = {4, -1, -6};
    for (int i = 0; i < 3; i++) {
      due("told 5", x.told(i, 5), filled[i]);
      due("told 6", x.told(i, 6), come[i]);
      due("told 7", x.told(i, 7), next[i]);
    }
    due("told changes nothing", x.told(0, 3), 0);
    due("told sunday", x.told(LEAST, 0), 0);
    due("told layer", x.told(7, 1), 1);
    due("told layer", x.told(8, 1), -1000);
    due("told layer", x.told(-1, 1), -1000);
    for (int what = 2; what < 8; what++) {
      due("told " + what, x.told(3, what), -1000);
      due("told " + what, x.told(-1, what), -1000);
      due("told " + what, x.told(LEAST, what), -1000);
    }
    due("told 8", x.told(0, 8), -1000);
    due("told -1", x.told(0, -1), -1000);
    x.set(3, 1, 20);
    due("told 7 at its bound", x.told(1, 7), 14);
    x.set(3, 0, 20);
    due("told 7 at its bound", x.told(0, 7), 20);
  }

  private static void feed() {
    SandwichesSpeak x = new SandwichesSpeak();
    due("feed", x.feed(-1), -2);
    due("feed", x.feed(256), -2);
    for (int i = 1; i <= 160; i++) {
      due("feed", x.feed(i == 3 ? 255 : i == 2 ? 0 : 32), i);
    }
    due("feed", x.feed(256), -2);
    due("feed", x.feed(32), -4);
    due("tape", x.count(4), 160);
    due("fault at 255 or 0", x.text(), -101);
    due("tape", x.count(4), 0);
    due("feed", x.feed(32), 1);
  }

  /** A text that is one: its number. */
  private static void fine(String text) {
    SandwichesSpeak x = fed(new SandwichesSpeak(), text);
    due("text() of " + text, x.text(), 1);
    due("tape behind it", x.count(4), 0);
    due("texts behind it", x.count(3), 2);
  }

  /** A text whose fault is at the sign ^ (which is not of the text). */
  private static void faulty(String marked) {
    int place = marked.indexOf('^');
    SandwichesSpeak x = fed(new SandwichesSpeak(), marked.substring(0, place) + marked.substring(place + 1));
    due("text() of " + marked, x.text(), -100 - place);
    due("tape behind it", x.count(4), 0);
    due("texts behind it", x.count(3), 1);
    due("text() once more", x.text(), -100);
  }

  private static void textPlain() {
    fine("cuts layer < 3 + mood ; feels layer - 3 ; sends 1 ;");
    fine("cuts1;feels2;sends3;");
    fine(" \n cuts\n1;feels 1 ;sends 1; \n");
    fine("cuts 0009;feels 9999;sends 0;");
    fine("cuts layer+mood*number-theirs<from;feels to=1;sends 1;");
    fine("cuts not not 1 and not 0 or 1;" + TAIL);
    fine("cuts 1 - - 1;" + TAIL);
    fine("cuts 1<2 and 3=3;" + TAIL);
    String long160 = "cuts 1" + " ".repeat(160 - 6 - 1 - TAIL.length()) + ";" + TAIL;
    fine(long160);
  }

  private static void textFaults() {
    faulty("^");
    faulty("cuts^");
    faulty("cuts ^");
    faulty("cuts 1 ^");
    faulty("cuts 1;^");
    faulty("cuts 1;feels 1;sends 1   ^");
    faulty("^Cuts 1;");
    faulty("^cut 1;");
    faulty("^cutss 1;");
    faulty("^feels 1;");
    faulty("^1");
    faulty("cuts ^;");
    faulty("cuts 1;^sends 1;");
    faulty("cuts 1;feels 1;^feels 1;");
    faulty("cuts 1;feels 1;sends 1;^;");
    faulty("cuts 1;feels 1;sends 1;^cuts");
    faulty("cuts 1;feels 1;sends 1; \n^#");
    faulty("cuts ^10000;" + TAIL);
    faulty("cuts ^00001;" + TAIL);
    faulty("cuts 1^mood;" + TAIL);
    faulty("cuts ^moody;" + TAIL);
    faulty("cuts ^cuts;" + TAIL);
    faulty("cuts mood ^feels 1;sends 1;");
    faulty("cuts 1 ^2");
    faulty("cuts 1^\t;" + TAIL);
    faulty("cuts 1 ^\u00e9;" + TAIL);
    faulty("cuts 1 ^> 2;" + TAIL);
    faulty("cuts 1 < 2 ^< 3;" + TAIL);
    faulty("cuts 1 = 2 ^= 3;" + TAIL);
    faulty("cuts 1 <^= 2;" + TAIL);
    faulty("cuts 1 + ^not 2;" + TAIL);
    faulty("cuts 1 < ^not 2;" + TAIL);
    faulty("cuts - ^not 2;" + TAIL);
    faulty("cuts 1 + ^+ 2;" + TAIL);
    faulty("cuts ^+ 2;" + TAIL);
    faulty("cuts 1 or ^or 1;" + TAIL);
    faulty("cuts 1 and ^;" + TAIL);
    faulty("cuts not ^;" + TAIL);
    faulty("cuts 1 ^not 1;" + TAIL);
    faulty("cuts (1^;" + TAIL);
    faulty("cuts (1^");
    faulty("cuts 1^);" + TAIL);
    faulty("cuts (^);" + TAIL);
    faulty("cuts mood ^(1);" + TAIL);
    faulty("cuts 1 ^ABC 10000;");
  }

  private static void textOpen() {
    fine("cuts (((((1)))));" + TAIL);
    faulty("cuts (((((^(1))))));" + TAIL);
    fine("cuts -----1;" + TAIL);
    faulty("cuts -----^-1;" + TAIL);
    fine("cuts not not not not not 1;" + TAIL);
    faulty("cuts not not not not not ^not 1;" + TAIL);
    fine("cuts not -(-(1)) and not -(-(2));" + TAIL);
    faulty("cuts not -(-(^-1));" + TAIL);
    faulty("cuts not -(-(^(1)));" + TAIL);
    faulty("cuts not -(-(mood + ^not 1));" + TAIL);
    fine("cuts 1;feels (((((1)))));sends (((((1)))));");
    fine("cuts (((((1)))))+(((((2)))));" + TAIL);
    fine("cuts -----1------1;" + TAIL);
    faulty("cuts -----1------^-1;" + TAIL);
    fine("cuts not not not not not 1 and not not 1 or not 0;" + TAIL);
  }

  /** What layer 6 makes person 1 feel, of texts that tell e, with these moods, numbers: 0 .. 1. */
  private static int value(String e) {
    SandwichesSpeak x = ruled("cuts 1;feels " + e + ";sends 1;");
    x.person(0, 3);
    x.person(0, 5);
    x.set(3, 0, 4);
    x.set(3, 1, -2);
    return x.sandwich(0, 1, 16);
  }

  private static void values(String e, int due) {
    due("value of " + e, value(e), due);
  }

  private static void textValues() {
    values("layer", 6);
    values("mood", -2);
    values("number", 5);
    values("theirs", 4);
    values("from", 0);
    values("to", 1);
    values("17", 17);
    values("21", 20);
    values("9999", 20);
    values("-20", -20);
    values("-21", -20);
    values("2 + 3 * 4", 14);
    values("(2 + 3) * 4", 20);
    values("9 - 3 - 2", 4);
    values("9 - (3 - 2)", 8);
    values("9 - 3 + 2", 8);
    values("2 * 3 - 4 * 2", -2);
    values("-2 * 3", -6);
    values("2 * -3", -6);
    values("2 - -3", 5);
    values("--3", 3);
    values("-(2 - 3)", 1);
    values("1 < 2", 1);
    values("2 < 2", 0);
    values("2 < 1", 0);
    values("-1 < 0", 1);
    values("2 = 2", 1);
    values("2 = 3", 0);
    values("1 + 1 < 1 + 2", 1);
    values("not 0", 1);
    values("not 7", 0);
    values("not not 7", 1);
    values("not 2 < 1", 1);
    values("not 1 = 0", 1);
    values("5 or 0", 1);
    values("0 or 0", 0);
    values("0 or -3", 1);
    values("5 and 6", 1);
    values("5 and 0", 0);
    values("0 and 5", 0);
    values("1 or 0 and 0", 1);
    values("(1 or 0) and 0", 0);
    values("0 and 0 or 1", 1);
    values("not 1 or 1", 1);
    values("not 0 and 0", 0);
    values("2 and 2 < 3", 1);
    values("(2 or 3) + (1 and 1) + 4", 6);
    values("9999*9999*9999*9999 < 0", 0);
    values("9999*9999*9999 < 0", 1);
    // 9999 * 9999 * 43 is 4299140043, which wraps to 4172747, 417 * 9999 + 3164
    values("9999*9999*43 - 417*9999 - 3164", 0);
    values("-----1-----1", -2);
    values("(((((1)))))+(((((2)))))", 3);
  }

  private static void textFull() {
    SandwichesSpeak x = new SandwichesSpeak();
    for (int i = 1; i < 6; i++) {
      fed(x, "cuts 1;" + TAIL);
      due("text", x.text(), i);
      fed(x, "cuts");
      due("a fault", x.text(), i < 5 ? -104 : -4);
    }
    due("texts", x.count(3), 6);
    due("the tape stays", x.count(4), 4);
    due("text", x.text(), -4);
    due("the tape stays", x.count(4), 4);
    for (int i = 0; i < 6; i++) {
      due("force", x.force(i), Math.max(0, i - 1));
    }
    // faults leave nothing behind, however many there were
    x = new SandwichesSpeak();
    for (int i = 0; i < 3; i++) {
      due("a long fault", fed(x, "cuts (1" + "+1".repeat(70)).text(), -100 - 147);
    }
    fed(x, "cuts layer=2;feels 6+1;sends 1;");
    due("text", x.text(), 1);
    x.force(1);
    cousins(x, 0, 0);
    due("by the text", x.sandwich(0, 1, 0), 4);
    due("by the text", x.sandwich(0, 1, 3), 7);
  }

  private static void force() {
    SandwichesSpeak x = fed(new SandwichesSpeak(), "cuts layer=7;feels 2;sends 1;");
    due("force", x.force(1), -2);
    due("force", x.force(-1), -2);
    due("text", x.text(), 1);
    due("the rule", x.count(5), 0);
    due("force", x.force(1), 0);
    due("force", x.force(1), 1);
    due("force", x.force(2), -2);
    due("force", x.force(6), -2);
    due("force", x.force(MOST), -2);
    due("the rule", x.count(5), 1);
    cousins(x, 0, 0);
    due("by the rule", x.sandwich(0, 1, 0), 128);
    due("force", x.force(0), 1);
    due("by the rule", x.sandwich(0, 1, 0), 7);
  }

  private static void cuts(String rule, int kind, int number, int mood, int due) {
    SandwichesSpeak x = ruled("cuts " + rule + ";feels 0;sends 1;");
    x.person(kind, number);
    x.person(0, 0);
    x.set(3, 0, mood);
    String call = "cuts " + rule + ", kind " + kind + " number " + number + " mood " + mood;
    due(call, x.sandwich(0, 1, 0), due);
    due(call, x.sandwich(0, 1, 1), Integer.bitCount(due));
    x.set(1, 0, 0);
    x.set(1, 3, 0);
    due(call + " without 0, 3", x.sandwich(0, 1, 0), due & ~9);
  }

  private static void sandwichCuts() {
    cuts("layer<2", 0, 9, -20, 3);
    cuts("-(layer=2)", 0, 9, -20, 4);
    cuts("layer<2", 1, 9, 0, 3);
    cuts("layer<2", 1, 8, 0, 3);
    cuts("layer<2", 1, 5, 0, 35);
    cuts("0", 1, 7, 0, 128);
    cuts("0", 1, 8, 0, 1);
    cuts("layer<3", 2, 5, 0, 5);
    cuts("1", 2, 5, -5, 85);
    cuts("layer<2", 3, 5, 0, 35);
    cuts("1", 3, 5, 0, 127);
    cuts("0", 3, 7, 0, 0);
    cuts("layer<2", 4, 5, -1, 9);
    cuts("layer<2", 4, 5, 0, 1);
    cuts("0", 4, 5, -5, 8);
    cuts("layer=3", 4, 5, 20, 0);
    cuts("0", 5, 5, 9, 7);
    cuts("0", 5, 5, 10, 255);
    cuts("1", 5, 5, -20, 7);
  }

  private static void sends(int yes, int kind, int number, int mood, int due) {
    SandwichesSpeak x = ruled("cuts 1;feels 0;sends " + yes + ";");
    x.person(0, 0);
    x.person(kind, number);
    x.person(0, 0);
    x.set(3, 1, mood);
    String call = "sends " + yes + ", kind " + kind + " number " + number + " mood " + mood;
    due(call, x.sandwich(1, 2, 2), due);
    due(call, x.sandwich(1, 2, 0) != 0 ? 1 : 0, due);
  }

  private static void sandwichSends() {
    sends(0, 0, 2, 20, 0);
    sends(7, 0, 2, -20, 1);
    sends(0, 1, 5, -20, 1);
    sends(0, 2, 2, 20, 0);
    sends(1, 2, 2, -5, 1);
    sends(1, 2, 2, -6, 0);
    sends(0, 3, 5, -20, 1);
    sends(0, 4, 2, -20, 1);
    sends(0, 4, 1, 20, 0);
    sends(0, 4, 0, 20, 0);
    sends(1, 4, 0, -5, 1);
    sends(1, 4, 0, -6, 0);
    sends(0, 5, 2, 20, 0);
    sends(1, 5, 2, -20, 1);
    // what isn't cut is sent all the same
    SandwichesSpeak x = cousins(new SandwichesSpeak(), -3, 0);
    due("sent, though empty", x.sandwich(0, 1, 2), 1);
    due("sent, though empty", x.sandwich(0, 1, 0), 0);
    // layer is 0 of sends
    x = cousins(ruled("cuts 1;feels 0;sends layer = 0;"), 0, 0);
    due("sends layer", x.sandwich(0, 1, 2), 1);
  }

  private static void feels(int kind, int number, int... due) {
    feelsOf("layer*8-24", kind, number, due);
  }

  private static void feelsOf(String e, int kind, int number, int... due) {
    SandwichesSpeak x = ruled("cuts layer<5;feels " + e + ";sends 1;");
    x.person(0, 0);
    x.person(kind, number);
    int sum = 0;
    for (int l = 0; l < 8; l++) {
      due("feels of kind " + kind + " by " + l, x.sandwich(0, 1, 10 + l), due[l]);
      sum += l < 5 ? due[l] : 0;
    }
    due("feels of kind " + kind + " by all", x.sandwich(0, 1, 3), sum);
  }

  private static void sandwichFeels() {
    feels(0, 3, -20, -16, -8, 0, 8, 16, 20, 20);
    feels(1, 3, -1, -1, -1, 0, 8, 16, 20, 20);
    feels(2, 3, -20, -20, -16, 0, 16, 20, 20, 20);
    feels(3, 3, 0, 0, 0, 1, 9, 17, 20, 20);
    feels(4, 3, -13, -13, -11, -3, 5, 7, 7, 7);
    feels(4, 0, -10, -10, -8, 0, 8, 10, 10, 10);
    feels(5, 3, -20, -16, -8, 0, 0, 0, 0, 0);
    feelsOf("layer+1", 5, 3, 1, 2, 3, 4, 0, 0, 0, 0);
    feelsOf("3-layer", 1, 3, 3, 2, 1, 0, -1, -1, -1, -1);
    // an inlaw would feel -20 (for -32): half of it, and 9 less
    SandwichesSpeak x = ruled("cuts 1;feels -16;sends 1;");
    x.person(0, 0);
    x.person(4, 9);
    due("a brother's bound", x.sandwich(0, 1, 10), -19);
    // no bound for all layers together
    x = cousins(ruled("cuts 1;feels 20;sends 1;"), 0, 0);
    due("by all together", x.sandwich(0, 1, 3), 160);
  }

  private static void sandwichNames() {
    String e = "layer=0 and mood=7 or layer=1 and number=8 or layer=2 and theirs=-9 or layer=3 and from=1"
        + " or layer=4 and to=2";
    SandwichesSpeak x = ruled("cuts " + e + ";feels 0;sends 1;");
    x.person(0, 1);
    x.person(0, 8);
    x.person(0, 2);
    x.set(3, 1, 7);
    x.set(3, 2, -9);
    due("names of cuts", x.sandwich(1, 2, 0), 31);
    due("names of cuts, turned", x.sandwich(2, 1, 0), 0);
    due("names of cuts, another", x.sandwich(1, 0, 0), 11);
    x = ruled("cuts 1;feels 0;sends mood=7 and number=8 and theirs=-9 and from=1 and to=2;");
    x.person(0, 8);
    x.person(0, 8);
    x.person(0, 2);
    x.set(3, 1, 7);
    x.set(3, 2, -9);
    due("names of sends", x.sandwich(1, 2, 2), 1);
    due("names of sends", x.sandwich(2, 1, 2), 0);
    due("names of sends", x.sandwich(1, 0, 2), 0);
    x = ruled("cuts 1;feels layer+10*(mood=7)-5*(theirs=-9)+3*(from=2)+2*(number=8)+(to=1);sends 1;");
    x.person(0, 8);
    x.person(0, 8);
    x.person(0, 2);
    x.set(3, 1, 7);
    x.set(3, 2, -9);
    due("names of feels", x.sandwich(2, 1, 10), 10 - 5 + 3 + 2 + 1);
    due("names of feels", x.sandwich(2, 1, 17), 7 + 10 - 5 + 3 + 2 + 1);
    due("names of feels", x.sandwich(1, 2, 10), 0);
    due("names of feels", x.sandwich(1, 0, 10), 2);
  }

  private static void sandwichRefusals() {
    SandwichesSpeak x = cousins(new SandwichesSpeak(), 0, 0);
    int[][] bad = {{0, 0, 0}, {1, 1, 3}, {0, 2, 0}, {2, 0, 0}, {-1, 0, 0}, {0, -1, 0}, {0, 1, -1}, {0, 1, 4},
        {0, 1, 9}, {0, 1, 18}, {LEAST, MOST, 0}, {0, 1, LEAST}, {0, 1, MOST}};
    for (int[] b : bad) {
      due("sandwich " + b[0] + " " + b[1] + " " + b[2], x.sandwich(b[0], b[1], b[2]), -1000);
    }
  }

  private static void sunday() {
    SandwichesSpeak x = cousins(new SandwichesSpeak(), 0, 5, -4);
    due("sunday", x.sunday(), 4 - 1 - 6);
    due("sunday", x.told(0, 3), 4);
    due("sunday", x.told(1, 3), -1);
    due("sunday", x.told(2, 3), -6);
    due("sunday", x.count(2), 1);
    x.set(0, 0, 998);
    // of 0 the layers 0 .. 6 (feels 0), of 1 0 and 1 (-5), of 2 none
    due("sunday", x.sunday(), 4 - 5 - 1 + 0 - 6 - 5);
    due("sunday", x.sunday(), -1000);
    due("sunday", x.told(0, 0), 999);
    due("sunday", x.all(0), -13);
    // sums pass the bounds of a mood before they are cut to them
    x = cousins(ruled("cuts 1;feels 20*(1-2*(from=2));sends 1;"), -20, 0, 20);
    due("sunday", x.sunday(), -20 + 0 + 20);
    x = cousins(ruled("cuts layer<3;feels 20;sends 1;"), -20, -20);
    due("sunday", x.sunday(), 40);
    due("sunday of nobody", new SandwichesSpeak().sunday(), 0);
  }

  private static void run() {
    SandwichesSpeak x = cousins(new SandwichesSpeak(), 0, 0);
    due("run", x.run(0, 0), 0);
    due("run", x.run(0, 1), 0);
    due("run", x.run(1, 0), -12);
    due("run", x.run(1, 1), 0);
    due("run", x.run(3, 1), 4);
    due("run", x.run(40, 0), -12);
    due("run", x.run(40, 1), 78);
    due("run", x.run(40, 11), -6);
    due("run", x.run(1, 10), -6);
    due("run", x.run(0, 11), 0);
    due("run in thought", x.count(2), 0);
    due("run in thought", x.all(0), 0);
    int[][] bad = {{-1, 0}, {41, 0}, {0, -1}, {0, 2}, {0, 9}, {0, 12}, {LEAST, 0}, {0, LEAST}, {0, MOST}};
    for (int[] b : bad) {
      due("run " + b[0] + " " + b[1], x.run(b[0], b[1]), -1000);
    }
    x.set(0, 0, 999);
    due("run", x.run(1, 0), -12);
    // one who doesn't send: empty, too
    x = cousins(ruled("cuts 1;feels 0;sends from;"), 0, 0, 0);
    due("run", x.run(2, 1), 4);
    due("run of nobody", new SandwichesSpeak().run(40, 10), -1000);
    // 5 cousins: what reaches as far as 14
    x = cousins(new SandwichesSpeak(), 1, 2, 3, 4, 5);
    due("run", x.run(0, 14), 5);
    due("run", x.run(0, 15), -1000);
  }

  private static void againOf(SandwichesSpeak x, int n, int round, int dead) {
    due("again 0", x.again(0), n);
    due("again 1", x.again(1), round);
    due("again 2", x.again(2), dead);
    due("again 3", x.again(3), -2);
    due("again -1", x.again(-1), -2);
  }

  private static void again() {
    againOf(new SandwichesSpeak(), 1, 1, 0);
    againOf(cousins(new SandwichesSpeak(), 7), 1, 1, 0);
    againOf(cousins(new SandwichesSpeak(), 0, 0), 2, 1, 1);
    againOf(cousins(new SandwichesSpeak(), 5, 5), 5, 1, 4);
    againOf(cousins(ruled("cuts layer=0;feels -2*mood;sends 1;"), 3, 3), 2, 2, -1);
    againOf(cousins(ruled("cuts layer=0;feels 1;sends 1;"), -20, -20), -1, -1, -1);
    againOf(cousins(ruled("cuts layer=0;feels 1;sends 1;"), -19, -19), 40, 1, 39);
    // of 0 each Sunday 1 more, of 1 from 20 to -20 at once: all moods count, each for itself
    SandwichesSpeak x = ruled("cuts layer<2;feels (to=0)*(layer=0)-20*to;sends 1;");
    againOf(cousins(x, 0, 20), 21, 1, 20);
    // each mood goes up by 1 from -2 till 3, then back to 1: 6 moods, a round of 3
    againOf(cousins(ruled("cuts layer=0;feels 1-3*(mood=3);sends 1;"), -2, -2), 6, 3, -1);
  }

  private static void all() {
    SandwichesSpeak x = cousins(ruled("cuts layer<mood;feels 0;sends to<3;"), 1, 2, 0, 1);
    // 0: just lettuce to 1, 2; 1: two layers; 2: empty ones; 3: just lettuce to 0, 1, 2; nobody to 3
    due("all", x.all(0), 4);
    due("all", x.all(1), 5);
    due("all", x.all(2), 1);
    due("all", x.all(3), 8);
    x.set(3, 0, 0);
    due("all", x.all(1), 3);
    due("all", x.all(2), 30);
    x.set(1, 0, 0);
    due("all", x.all(1), 0);
    due("all", x.all(2), -1);
    due("all", x.all(3), 8 | 2);
    due("all", x.all(-1), -1000);
    due("all", x.all(4), -1000);
    due("all of one", cousins(new SandwichesSpeak(), 3).all(3), 1);
  }

  private static void best() {
    SandwichesSpeak x = cousins(new SandwichesSpeak(), 0, 0);
    // the other one's sandwich is -6, mine 4 from mood 5 on: 14 + 4
    due("best", x.best(0, 1, 0), 20);
    due("best", x.best(0, 1, 1), 18);
    due("best", x.best(1, 0, 0), 20);
    due("best", x.best(1, 0, 1), 20);
    x = cousins(ruled("cuts 1;feels 9;sends 1;"), 3, 3);
    due("best", x.best(0, 1, 0), -20);
    due("best", x.best(0, 1, 1), 40);
    due("best", x.best(0, 0, 0), 20);
    due("best", x.best(0, 0, 1), 23);
    due("best in thought", x.told(0, 3), 3);
    // 1 a Sunday from mood -10 on: 20 behind 10 of them
    x = cousins(ruled("cuts layer=0;feels 1;sends 1;"), 0, 20);
    due("best", x.best(0, 10, 0), 10);
    due("best", x.best(0, 10, 1), 40);
    int[][] bad = {{-1, 0, 0}, {2, 0, 0}, {0, -1, 0}, {0, 11, 0}, {0, 0, -1}, {0, 0, 2}, {MOST, 0, 0}};
    for (int[] b : bad) {
      due("best " + b[0] + " " + b[1] + " " + b[2], x.best(b[0], b[1], b[2]), -1000);
    }
  }

  private static void leaveOut() {
    SandwichesSpeak x = cousins(ruled("cuts layer=0;feels from*3-3;sends 1;"), 0, 0, 0);
    due("leaveOut", x.leaveOut(1, 0), 0);
    due("leaveOut", x.leaveOut(1, 1), 3);
    due("leaveOut", x.leaveOut(0, 0), -1);
    due("leaveOut", x.leaveOut(0, 1), 0);
    due("leaveOut in thought", x.run(1, 0), 0);
    x = cousins(ruled("cuts layer=0;feels -1;sends 1;"), 0, 0, 0);
    due("leaveOut, alike", x.leaveOut(2, 0), 0);
    due("leaveOut, alike", x.leaveOut(2, 1), -4);
    x = cousins(ruled("cuts layer=0;feels -(from=2);sends 1;"), 5, 5, 5);
    due("leaveOut, the last", x.leaveOut(40, 0), 2);
    due("leaveOut, the last", x.leaveOut(40, 1), 15);
    x = cousins(ruled("cuts layer=0;feels 0;sends 1;"), 5, 5);
    due("leaveOut, none", x.leaveOut(3, 0), -1);
    due("leaveOut, none", x.leaveOut(3, 1), 10);
    // a mother sends always, but not if she is left out
    x = ruled("cuts 1;feels -1;sends 0;");
    x.person(1, 0);
    x.person(0, 0);
    due("leaveOut, a mother", x.leaveOut(1, 1), 0);
    due("leaveOut, a mother", x.leaveOut(1, 0), 0);
    int[][] bad = {{-1, 0}, {41, 0}, {0, -1}, {0, 2}};
    for (int[] b : bad) {
      due("leaveOut " + b[0] + " " + b[1], x.leaveOut(b[0], b[1]), -1000);
    }
  }

  private static void spare() {
    SandwichesSpeak x = cousins(ruled("cuts 1;feels layer-1;sends 1;"), -20, -20);
    due("spare", x.spare(1, 0), 0);
    due("spare", x.spare(1, 1), 2);
    due("spare in thought", x.count(1), 8);
    x.set(1, 0, 0);
    due("spare, none", x.spare(1, 0), -1);
    due("spare, none", x.spare(1, 1), 2);
    x = cousins(ruled("cuts 1;feels -1-(layer=5);sends 1;"), 0, 0);
    due("spare", x.spare(1, 0), 5);
    due("spare", x.spare(1, 1), -14);
    due("spare", x.spare(0, 0), -1);
    due("spare", x.spare(0, 1), 0);
    x.set(1, 5, 0);
    x.set(1, 0, 0);
    due("spare, alike", x.spare(1, 0), 1);
    due("spare, alike", x.spare(1, 1), -10);
    due("spare", x.spare(40, 1), -40);
    int[][] bad = {{-1, 0}, {41, 0}, {0, -1}, {0, 2}};
    for (int[] b : bad) {
      due("spare " + b[0] + " " + b[1], x.spare(b[0], b[1]), -1000);
    }
  }

  private static void add() {
    SandwichesSpeak x = cousins(ruled("cuts layer<2;feels layer-3;sends 1;"), 0, 0, 0);
    // 0 gets -5 twice
    due("add", x.add(1, 0, 0), 7);
    due("add", x.add(1, 0, 1), -6);
    x.set(1, 7, 0);
    due("add", x.add(1, 0, 0), 6);
    due("add", x.add(1, 0, 1), -7);
    due("add in thought", x.sandwich(1, 0, 0), 3);
    x = cousins(ruled("cuts layer<2;feels 20*(3<layer);sends 1;"), 0, 10);
    due("add, alike", x.add(0, 1, 0), 4);
    due("add, alike", x.add(0, 1, 1), 20);
    x.set(3, 1, 20);
    due("add, none", x.add(0, 1, 0), -1);
    due("add, none", x.add(0, 1, 1), 20);
    x = cousins(ruled("cuts 1;feels 3;sends 1;"), 0, 0);
    due("add, all are in it", x.add(0, 1, 0), -1);
    due("add, all are in it", x.add(0, 1, 1), 20);
    // one who doesn't send: all are to be added
    x = cousins(ruled("cuts 1;feels layer;sends 0;"), 0, 0);
    due("add, not sent", x.add(0, 1, 0), 7);
    due("add, not sent", x.add(0, 1, 1), 7);
    x = cousins(ruled("cuts 0;feels 8-layer;sends 1;"), 0, 0);
    due("add, layer 0", x.add(0, 1, 0), 0);
    due("add, layer 0", x.add(0, 1, 1), 8);
    // below the bound by more than a layer makes good
    x = cousins(ruled("cuts layer<2;feels -20+30*(1<layer);sends 1;"), -10, -10);
    due("add, below the bound", x.add(0, 1, 0), -1);
    due("add, below the bound", x.add(0, 1, 1), -20);
    int[][] bad = {{0, 0, 0}, {0, 2, 0}, {2, 0, 0}, {-1, 0, 0}, {0, -1, 0}, {0, 1, -1}, {0, 1, 2}};
    for (int[] b : bad) {
      due("add " + b[0] + " " + b[1] + " " + b[2], x.add(b[0], b[1], b[2]), -1000);
    }
  }

  private static void tellsOf(SandwichesSpeak x, int sheet, int one, int... due) {
    for (int what = 0; what < 6; what++) {
      due("tells " + sheet + " " + one + " " + what, x.tells(sheet, one, what), due[what]);
    }
  }

  private static void tells() {
    SandwichesSpeak x = ruled("cuts layer=0;feels number;sends 1;");
    x.person(0, 2);
    x.person(0, 0);
    due("film", x.film(0, 0, 3), 3);
    // an inlaw would feel 4, a grandmother 3, a brother 2 / 2 * 2 - 2
    tellsOf(x, 0, 0, -1, 1 | 2 | 32, 4, 1, 0, 2);
    x.set(3, 0, 1);
    tellsOf(x, 0, 0, 0, 0, 0, 1, 0, 0);
    x.sheet(1, 2, 2);
    x.cell(1, 0, 20);
    x.cell(1, 1, 20);
    x.set(3, 0, 18);
    tellsOf(x, 1, 0, -1, 1 | 2 | 4 | 8 | 32, 1020, 3, 18, 2);
    x.cell(1, 1, 21);
    tellsOf(x, 1, 0, 1, 0, 0, 0, -100, 0);
    x.sheet(2, 1, 10);
    tellsOf(x, 2, 1, -1, 1 | 2 | 4 | 16 | 32, 1, 1, 0, 2);
    due("tells, 11 of them", x.sheet(2, 1, 11), 1);
    due("tells, 11 of them", x.tells(2, 1, 0), -1000);
    due("tells, missing", x.tells(3, 1, 0), -11);
    int[][] bad = {{-1, 0, 0}, {4, 0, 0}, {3, -1, 0}, {3, 2, 0}, {3, 0, -1}, {3, 0, 6}};
    for (int[] b : bad) {
      due("tells " + b[0] + " " + b[1] + " " + b[2], x.tells(b[0], b[1], b[2]), -1000);
    }
    // bytes have a sign
    x = cousins(new SandwichesSpeak(), 0, 0);
    x.film(0, 1, 10);
    // a brother with number 0 halves what an inlaw doubles
    tellsOf(x, 0, 1, -1, 1 | 16 | 32, 1023, 1, 0, 1);
    x.sheet(0, 0, 0);
    tellsOf(x, 0, 1, -1, 63, 1023, 41, -20, 1);
    due("tells, nobody", new SandwichesSpeak().tells(0, 0, 0), -1000);
  }

  private static void film() {
    SandwichesSpeak x = cousins(ruled("cuts layer=0;feels from-to;sends 1;"), 0, 0);
    x.sheet(0, 2, 30);
    x.sheet(1, 0, 1);
    due("film", x.film(0, 1, 2), 2);
    due("film makes bytes", x.copy(1, 0, 0, 0, 0), 0);
    due("film makes just two", x.cell(0, 2, 0), -12);
    due("film tells them", x.tells(0, 1, 0), -1);
    due("film tells them", x.tells(0, 0, 0), 0);
    due("film in thought", x.told(1, 3), 0);
    due("film in thought", x.count(2), 0);
    due("film of none", x.film(3, 1, 0), 0);
    due("film of none", x.cell(3, 0, 0), -12);
    due("film of ten", x.film(3, 1, 10), 10);
    int[][] bad = {{-1, 0, 0}, {4, 0, 0}, {0, -1, 0}, {0, 2, 0}, {0, 0, -1}, {0, 0, 11}};
    for (int[] b : bad) {
      due("film " + b[0] + " " + b[1] + " " + b[2], x.film(b[0], b[1], b[2]), -2);
    }
    due("film that was bad", x.tells(0, 1, 0), -1);
    // what film put: -1, -2, read as a number of people from a sheet of bytes
    due("film put -1", x.people(0, 0, 0, 1), 0);
  }

  private static void drawn() {
    due("drawn of nobody", new SandwichesSpeak().drawn(5), 0);
    SandwichesSpeak x = cousins(new SandwichesSpeak(), 9);
    int[][] firsts = {{0, 4}, {1, 19}, {2, -7}, {7, 20}, {-1, -4}, {MOST, -8}, {LEAST, 8}};
    for (int[] f : firsts) {
      due("drawn " + f[0], x.drawn(f[0]), f[1]);
    }
    due("drawn in thought", x.told(0, 3), 9);
    x = cousins(ruled("cuts layer=0;feels 1;sends 1;"), 0, 0);
    // 4 and -3, each 5 more
    due("drawn", x.drawn(0), 11);
    // -10 and 11, each 5 more
    due("drawn", x.drawn(5), 11);
    x.set(1, 0, 0);
    x.person(0, 0);
    x.person(0, 0);
    x.person(0, 0);
    due("drawn by five", x.drawn(0), 9);
    due("drawn by five", x.drawn(-1), -3);
    due("drawn by five", x.drawn(MOST), -40);
  }

  private static void chances(SandwichesSpeak x, int seed, int m, int k, int above, int below) {
    due("chance " + seed + " " + m + " " + k, x.chance(seed, m, k, 0), above);
    due("chance " + seed + " " + m + " " + k, x.chance(seed, m, k, 1), below);
  }

  private static void chance() {
    // by seeds 0 .. 7: 4, 19, -7, 8, 15, -10, 5, 20
    SandwichesSpeak x = cousins(new SandwichesSpeak(), 0);
    chances(x, 0, 4, 5, 1, 2);
    chances(x, 0, 6, 4, 2, 3);
    chances(x, 0, 8, 20, 1, 8);
    chances(x, 0, 3, 21, 0, 1);
    chances(x, 0, 3, 100, 0, 1);
    chances(x, 0, 20, -100, 1, 1);
    chances(x, 1, 1, 19, 1, 1);
    chances(x, MOST, 2, 8, 1, 2);
    int[][] bad = {{0, 0, 0}, {21, 0, 0}, {-1, 0, 0}, {1, -101, 0}, {1, 101, 0}, {1, 0, -1}, {1, 0, 2}};
    for (int[] b : bad) {
      due("chance " + b[0] + " " + b[1] + " " + b[2], x.chance(0, b[0], b[1], b[2]), NO);
    }
  }

  private static void imageAndBack() {
    SandwichesSpeak x = fed(new SandwichesSpeak(), "cuts layer=0;feels 1;sends 1;");
    due("back", x.back(), -3);
    due("image of nobody", x.image(), 0);
    x.person(1, 5);
    due("back to nobody", x.back(), 0);
    due("nobody", x.told(0, 3), -1000);
    x.person(2, 6);
    x.person(3, 7);
    x.set(3, 0, 11);
    x.set(0, 0, 44);
    x.set(1, 2, 0);
    due("image", x.image(), 2);
    x.set(3, 0, -3);
    x.set(2, 0, 1);
    x.set(2, 1, 2);
    x.set(0, 0, 2);
    x.set(1, 2, 1);
    x.set(1, 4, 0);
    x.text();
    x.force(1);
    x.feed(32);
    x.sheet(0, 0, 4);
    x.person(4, 8);
    x.set(3, 2, 9);
    for (int i = 0; i < 2; i++) {
      due("back", x.back(), 2);
      int[] counts = {2, 7, 44, 2, 1, 0};
      for (int what = 0; what < 6; what++) {
        due("back: count " + what, x.count(what), counts[what]);
      }
      due("back: mood", x.told(0, 3), 11);
      due("back: mood", x.told(1, 3), 0);
      due("back: number", x.told(0, 2), 6);
      due("back: number", x.told(1, 2), 7);
      due("back: kind", x.told(0, 4), 2);
      due("back: layer", x.told(2, 1), 0);
      due("back: layer", x.told(4, 1), 1);
      due("back: sheets stay", x.cell(0, 3, 0), 1);
      due("back: one more", x.person(5, 0), 2);
      due("back: as one comes", x.told(2, 3), 0);
      x.sunday();
    }
    due("force stays", x.force(1), 0);
    due("image", x.image(), 3);
    x.force(0);
    due("back", x.back(), 3);
    due("the rule", x.count(5), 1);
  }

  private static void count() {
    SandwichesSpeak x = fed(cousins(new SandwichesSpeak(), 1, 2), "abc");
    x.set(1, 3, 0);
    x.sunday();
    int[] counts = {2, 7, 1, 1, 3, 0};
    for (int i = 0; i < 6; i++) {
      due("count " + i, x.count(i), counts[i]);
    }
    due("count", x.count(-1), -2);
    due("count", x.count(6), -2);
    due("count", x.count(LEAST), -2);
  }

  private static void sheet() {
    SandwichesSpeak x = new SandwichesSpeak();
    due("sheet", x.sheet(0, 0, 40), 1);
    due("sheet", x.cell(0, 39, 1), 1);
    due("sheet", x.cell(0, 40, 1), -12);
    due("sheet", x.sheet(0, 0, 41), -2);
    due("sheet", x.sheet(0, 0, -1), -14);
    due("sheet", x.sheet(0, 3, -1), -2);
    due("sheet", x.sheet(0, -2, 0), -2);
    due("sheet", x.sheet(4, 0, -1), -2);
    due("sheet", x.sheet(-1, 0, 0), -2);
    due("sheet", x.sheet(0, 1, LEAST), -14);
    due("sheet", x.sheet(0, 1, MOST), -2);
    due("sheet stays", x.cell(0, 39, 1), 1);
    due("sheet", x.sheet(0, -1, -5), 1);
    due("sheet missing", x.cell(0, 0, 1), -11);
    due("sheet", x.sheet(0, -1, 99), 1);
    due("sheet", x.sheet(3, 2, 0), 1);
    due("sheet of none", x.cell(3, 0, 0), -12);
    // all 0 anew: 0, 0 is a cousin with number 0
    x.sheet(1, 2, 2);
    x.cell(1, 0, 6);
    due("sheet", x.sheet(1, 2, 2), 1);
    due("sheet is all 0", x.people(1, 2, 0, 1), 1);
  }

  /** What item 0 of a sheet of this sort is, once v was put there: read by tells() as a mood. */
  private static void kept(int sort, int v, int mood) {
    SandwichesSpeak x = cousins(new SandwichesSpeak(), mood);
    x.sheet(2, sort, 1);
    due("cell", x.cell(2, 0, v), 1);
    due("cell of sort " + sort + ", " + v, x.tells(2, 0, 0), -1);
  }

  private static void cell() {
    SandwichesSpeak x = new SandwichesSpeak();
    due("cell", x.cell(-1, 0, 0), -2);
    due("cell", x.cell(4, 0, 0), -2);
    due("cell", x.cell(0, -1, 0), -11);
    x.sheet(0, 1, 3);
    due("cell", x.cell(0, -1, 0), -12);
    due("cell", x.cell(0, 3, 0), -12);
    due("cell", x.cell(0, LEAST, 0), -12);
    due("cell", x.cell(0, MOST, 0), -12);
    due("cell", x.cell(0, 2, MOST), 1);
    kept(0, 20, 20);
    kept(0, -20, -20);
    kept(0, 256 + 7, 7);
    kept(0, 250, -6);
    kept(1, 65536 + 7, 7);
    kept(1, 65535, -1);
    kept(2, -9, -9);
    SandwichesSpeak y = cousins(new SandwichesSpeak(), 7);
    y.sheet(2, 1, 1);
    y.cell(2, 0, 256 + 7);
    due("a short of more than 8 bits", y.tells(2, 0, 0), 0);
    y.sheet(2, 2, 1);
    y.cell(2, 0, 65536 + 7);
    due("an int of more than 16 bits", y.tells(2, 0, 0), 0);
  }

  private static void copy() {
    SandwichesSpeak x = new SandwichesSpeak();
    due("copy", x.copy(4, 0, 0, 0, 0), -2);
    due("copy", x.copy(0, 0, -1, 0, 0), -2);
    due("copy", x.copy(0, 0, 1, 0, -1), -11);
    x.sheet(0, 2, 4);
    due("copy", x.copy(0, 0, 1, 0, 1), -11);
    due("copy", x.copy(1, 0, 0, 0, 1), -11);
    x.sheet(1, 1, 4);
    due("copy", x.copy(0, -1, 1, 0, 1), -13);
    x.sheet(1, 2, 3);
    int[][] out = {{-1, 0, 1}, {0, -1, 1}, {0, 0, -1}, {0, 0, 4}, {2, 0, 3}, {0, 3, 1}, {5, 0, 0}, {0, 4, 0},
        {MOST, 0, MOST}, {0, MOST, MOST}, {1, 1, MOST}, {LEAST, 0, LEAST}, {0, 0, LEAST}};
    for (int[] o : out) {
      due("copy " + o[0] + " " + o[1] + " " + o[2], x.copy(0, o[0], 1, o[1], o[2]), -12);
    }
    due("copy", x.copy(0, 4, 1, 3, 0), 0);
    due("copy", x.copy(0, 1, 1, 0, 3), 3);
    // on itself, as they were: 1 2 3 4 becomes 1 1 2 3, and then 1 2 3 3
    for (int i = 0; i < 4; i++) {
      x.cell(0, i, i + 1);
    }
    due("copy", x.copy(0, 0, 0, 1, 3), 3);
    reads(x, 0, 1, 1, 2, 3);
    due("copy", x.copy(0, 1, 0, 0, 3), 3);
    reads(x, 0, 1, 2, 3, 3);
    due("copy", x.copy(0, 1, 1, 1, 2), 2);
    reads(x, 1, 0, 2, 3);
  }

  /** The items of a sheet of ints, each read as the number of a person. */
  private static void reads(SandwichesSpeak x, int sheet, int... due) {
    x.image();
    x.sheet(3, 2, 2);
    for (int i = 0; i < due.length; i++) {
      x.copy(sheet, i, 3, 1, 1);
      due("came by item " + i, x.people(3, 2, 0, 1), 1);
      due("item " + i, x.told(0, 2), due[i]);
      x.back();
    }
  }

  private static void people() {
    SandwichesSpeak x = new SandwichesSpeak();
    int[][] bad = {{-1, 0, 0}, {4, 0, 0}, {0, -1, 0}, {0, 3, 0}, {0, 0, -1}, {0, 0, 6}};
    for (int[] b : bad) {
      due("people " + b[0] + " " + b[1] + " " + b[2], x.people(b[0], b[1], 0, b[2]), -2);
    }
    due("people", x.people(0, 0, -1, 1), -11);
    due("people", x.people(0, 2, 0, 0), -11);
    x.sheet(0, 1, 5);
    due("people", x.people(0, 0, -1, 1), -13);
    due("people", x.people(0, 2, 0, 0), -13);
    due("people", x.people(0, 1, 0, 0), 0);
    due("people", x.people(0, 1, -1, 1), -12);
    due("people", x.people(0, 1, LEAST, 1), -12);
    due("people", x.people(0, 1, MOST, 5), -12);
    due("people", x.people(0, 1, 4, 1), -12);
    due("nobody came", x.count(0), 0);
    int[] items = {2, 7, 6, 0, 5};
    for (int i = 0; i < 5; i++) {
      x.cell(0, i, items[i]);
    }
    due("people", x.people(0, 1, 0, 2), 1);
    due("came", x.told(0, 4), 2);
    due("came", x.told(0, 2), 7);
    due("people", x.people(0, 1, 0, 3), -12);
    due("came", x.count(0), 2);
    due("people", x.people(0, 1, 3, 1), 1);
    due("came", x.told(2, 4), 0);
    due("came", x.told(2, 2), 5);
    x.sheet(1, 0, 40);
    due("people, more than have room", x.people(1, 0, 30, 5), 2);
    due("people, none has room", x.people(1, 0, 30, 5), 0);
    due("people, none has room", x.people(1, 0, 38, 2), -12);
    due("people", x.count(0), 5);
  }

  private static void taken() {
    SandwichesSpeak x = new SandwichesSpeak();
    due("taken", x.taken(0, 0), -11);
    due("taken", x.taken(0, 6), -2);
    for (int kind = 1; kind <= 5; kind++) {
      x.person(kind, kind + 3);
    }
    String[] under = {"01", "02", "013", "024", "05"};
    for (int one = 0; one < 5; one++) {
      for (int k = 0; k < 6; k++) {
        due("taken " + one + " " + k, x.taken(one, k), under[one].indexOf('0' + k) >= 0 ? one + 4 : -13);
      }
      due("taken", x.taken(one, -1), -2);
    }
    due("taken", x.taken(5, 0), -11);
    due("taken", x.taken(-1, 0), -11);
    due("taken", x.taken(LEAST, MOST), -2);
    x = cousins(new SandwichesSpeak(), 0);
    due("taken", x.taken(0, 0), 0);
    for (int k = 1; k < 6; k++) {
      due("taken", x.taken(0, k), -13);
    }
  }
}
