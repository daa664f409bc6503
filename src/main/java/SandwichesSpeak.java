/**
 * Sandwiches speak for the absent: people of kinds who send each other sandwiches on Sundays, by a
 * rule of texts, and feel by those that come. README.md tells how to use it.
 */
public final class SandwichesSpeak {
  public static final int NONE = -1, BAD = -2, STATE = -3, FULL = -4;
  public static final long NO = -4611686018427387904L;

  private static final int REFUSED = -1000;
  private static final int MISSING = -11, OUTSIDE = -12, OTHER_SORT = -13, BELOW_ZERO = -14;

  private static final int LAYERS = 8, ALL_LAYERS = 255, PEOPLE_MOST = 5, KINDS = 6, NUMBERS = 10;
  private static final int MOOD_MOST = 20, SUNDAY_LAST = 999;
  private static final int TEXTS_MOST = 6, TAPE_MOST = 160, OPEN_MOST = 5, DIGITS_MOST = 4;
  private static final int SHEETS = 4, SHEET_MOST = 40, TOLD_MOST = 10;
  private static final int AHEAD_MOST = 40, BEST_MOST = 10, DRAWN_AHEAD = 5;
  private static final int SEEDS_MOST = 20, CHANCE_MOST = 100, NO_MOOD = -100, NO_FAULT = -1;
  private static final int FAULT_BASE = -100, BELOW_ALL_GLAD = -PEOPLE_MOST * MOOD_MOST - 1;

  private static final int MOTHER = 1, INLAW = 2, GRANDMOTHER = 3, BROTHER = 4, CHILD = 5;
  /** The kind that each kind stands under; NONE above all. */
  private static final int[] UNDER = {-1, 0, 0, 1, 2, 0};

  private static final int BYTES = 0, SHORTS = 1, INTS = 2;

  private static final String FIRST_RULE = "cuts layer < 3 + mood ; feels layer - 3 ; sends 1 ;";
  /** Names first, then keys: a word's place in this row is its number. */
  private static final String WORDS = "layer mood number theirs from to cuts feels sends or and not ";
  private static final String SIGNS = "();+-*<=";
  private static final int NAMES = 6, PARTS = 3, CUTS = 0, FEELS = 1, SENDS = 2;

  /** Tokens; a sign is its own byte, which is above all of these. */
  private static final int END = 0, NO_TOKEN = 1, NUMERAL = 2, NAME = 3, CUTS_KEY = 4;
  private static final int OR_KEY = 7, AND_KEY = 8, NOT_KEY = 9;

  /** Steps of a read text: 0 and above are numbers, -1 .. -6 names, and below them these. */
  private static final int NOT_STEP = -7, MINUS_STEP = -8, OR_STEP = -9, AND_STEP = -10;
  private static final int LESS_STEP = -11, SAME_STEP = -12, ADD_STEP = -13, TAKE_STEP = -14;
  private static final int TIMES_STEP = -15;

  private final Text[] texts = new Text[TEXTS_MOST];
  private final Sheet[] sheets = new Sheet[SHEETS];
  private final Reader reader = new Reader();
  private final Family family;
  private final Family thought;
  private final Family kept;
  private final int[] past = new int[AHEAD_MOST + 1];
  private int textCount;
  private boolean isKept;

  public SandwichesSpeak() {
    for (int i = 0; i < TEXTS_MOST; i++) {
      texts[i] = new Text();
    }
    for (int i = 0; i < SHEETS; i++) {
      sheets[i] = new Sheet();
    }
    family = new Family(texts);
    thought = new Family(texts);
    kept = new Family(texts);
    for (int i = 0; i < FIRST_RULE.length(); i++) {
      reader.takeByte(FIRST_RULE.charAt(i));
    }
    reader.readInto(texts[0]);
    reader.size = 0;
    textCount = 1;
  }

  // ---- layers, people

  public int set(int what, int of, int v) {
    if (!isIn(what, 0, 3) || !isThere(what, of) || !fits(what, v)) {
      return REFUSED;
    }
    int was = plainly(what, of);
    switch (what) {
      case 0:
        family.sunday = v;
        break;
      case 1:
        family.used = family.used & ~(1 << of) | v << of;
        break;
      case 2:
        family.numbers[of] = v;
        break;
      default:
        family.moods[of] = v;
        break;
    }
    return was;
  }

  public int person(int kind, int number) {
    if (!isIn(kind, 0, KINDS - 1) || !isIn(number, 0, NUMBERS - 1)) {
      return BAD;
    }
    return family.takeIn(kind, number);
  }

  public int told(int of, int what) {
    if (!isIn(what, 0, 7) || !isThere(what, of)) {
      return REFUSED;
    }
    switch (what) {
      case 4:
        return family.kinds[of];
      case 5:
        return family.filledFrom(of);
      case 6:
        return family.layersTo(of);
      case 7:
        thought.becomeLike(family);
        thought.passSunday();
        return thought.moods[of];
      default:
        return plainly(what, of);
    }
  }

  /** Whether what set() or told() names by what and of is there. */
  private boolean isThere(int what, int of) {
    if (what == 0) {
      return true;
    }
    return what == 1 ? isIn(of, 0, LAYERS - 1) : isPerson(of);
  }

  private static boolean fits(int what, int v) {
    switch (what) {
      case 0:
        return isIn(v, 0, SUNDAY_LAST);
      case 1:
        return isIn(v, 0, 1);
      case 2:
        return isIn(v, 0, NUMBERS - 1);
      default:
        return isIn(v, -MOOD_MOST, MOOD_MOST);
    }
  }

  private int plainly(int what, int of) {
    switch (what) {
      case 0:
        return family.sunday;
      case 1:
        return family.used >> of & 1;
      case 2:
        return family.numbers[of];
      default:
        return family.moods[of];
    }
  }

  private boolean isPerson(int one) {
    return isIn(one, 0, family.size - 1);
  }

  private boolean areTwo(int one, int other) {
    return isPerson(one) && isPerson(other) && one != other;
  }

  private static boolean isIn(int v, int least, int most) {
    return v >= least && v <= most;
  }

  // ---- texts

  public int feed(int letter) {
    if (!isIn(letter, 0, 255)) {
      return BAD;
    }
    return reader.takeByte(letter) ? reader.size : FULL;
  }

  public int text() {
    if (textCount >= TEXTS_MOST) {
      return FULL;
    }
    int fault = reader.readInto(texts[textCount]);
    reader.size = 0;
    if (fault != NO_FAULT) {
      return FAULT_BASE - fault;
    }
    textCount++;
    return textCount - 1;
  }

  public int force(int text) {
    if (!isIn(text, 0, textCount - 1)) {
      return BAD;
    }
    int was = family.rule;
    family.rule = text;
    return was;
  }

  // ---- sandwiches, Sundays

  public int sandwich(int one, int other, int what) {
    if (!areTwo(one, other)) {
      return REFUSED;
    }
    if (isIn(what, 10, 9 + LAYERS)) {
      return family.feelsBy(other, one, what - 10);
    }
    switch (what) {
      case 0:
        return family.layersOf(one, other);
      case 1:
        return Integer.bitCount(family.layersOf(one, other));
      case 2:
        return family.sendsTo(one, other) ? 1 : 0;
      case 3:
        return family.feltFrom(one, other);
      default:
        return REFUSED;
    }
  }

  public int sunday() {
    if (family.sunday >= SUNDAY_LAST) {
      return REFUSED;
    }
    family.passSunday();
    family.sunday++;
    return family.glad();
  }

  public int run(int n, int what) {
    boolean ofOne = what >= 10 && isPerson(what - 10);
    if (!isIn(n, 0, AHEAD_MOST) || !ofOne && !isIn(what, 0, 1)) {
      return REFUSED;
    }
    thought.becomeLike(family);
    if (what == 1) {
      return thought.emptyBehind(n);
    }
    int glad = thought.gladBehind(n);
    return ofOne ? thought.moods[what - 10] : glad;
  }

  public int again(int what) {
    if (!isIn(what, 0, 2)) {
      return BAD;
    }
    thought.becomeLike(family);
    past[0] = thought.allMoods();
    for (int n = 1; n <= AHEAD_MOST; n++) {
      thought.passSunday();
      past[n] = thought.allMoods();
    }
    return what == 2 ? firstDead() : firstAgain(what);
  }

  private int firstDead() {
    for (int n = 0; n < AHEAD_MOST; n++) {
      if (past[n] == past[n + 1]) {
        return n;
      }
    }
    return NONE;
  }

  private int firstAgain(int what) {
    for (int n = 1; n <= AHEAD_MOST; n++) {
      for (int fewer = 0; fewer < n; fewer++) {
        if (past[fewer] == past[n]) {
          return what == 0 ? n : n - fewer;
        }
      }
    }
    return NONE;
  }

  public int all(int what) {
    switch (what) {
      case 0:
        return family.glad();
      case 1:
        return family.lettuceCount();
      case 2:
        return family.lettuceFirst();
      case 3:
        return family.leftAlone();
      default:
        return REFUSED;
    }
  }

  // ---- what would be best

  public int best(int one, int n, int what) {
    if (!isPerson(one) || !isIn(n, 0, BEST_MOST) || !isIn(what, 0, 1)) {
      return REFUSED;
    }
    int most = BELOW_ALL_GLAD;
    int bestMood = NO_MOOD;
    for (int mood = -MOOD_MOST; mood <= MOOD_MOST; mood++) {
      thought.becomeLike(family);
      thought.moods[one] = mood;
      int glad = thought.gladBehind(n);
      if (glad > most) {
        most = glad;
        bestMood = mood;
      }
    }
    return what == 0 ? bestMood : most;
  }

  public int leaveOut(int n, int what) {
    if (!isIn(n, 0, AHEAD_MOST) || !isIn(what, 0, 1)) {
      return REFUSED;
    }
    int most = gladAsItIs(n);
    int who = NONE;
    for (int one = 0; one < family.size; one++) {
      thought.becomeLike(family);
      thought.leftOut = one;
      int glad = thought.gladBehind(n);
      if (glad > most) {
        most = glad;
        who = one;
      }
    }
    return what == 0 ? who : most;
  }

  public int spare(int n, int what) {
    if (!isIn(n, 0, AHEAD_MOST) || !isIn(what, 0, 1)) {
      return REFUSED;
    }
    int most = gladAsItIs(n);
    int which = NONE;
    for (int layer = 0; layer < LAYERS; layer++) {
      // a layer that is not used changes nothing, so it is never more
      thought.becomeLike(family);
      thought.used = family.used & ~(1 << layer);
      int glad = thought.gladBehind(n);
      if (glad > most) {
        most = glad;
        which = layer;
      }
    }
    return what == 0 ? which : most;
  }

  private int gladAsItIs(int n) {
    thought.becomeLike(family);
    return thought.gladBehind(n);
  }

  public int add(int one, int other, int what) {
    if (!areTwo(one, other) || !isIn(what, 0, 1)) {
      return REFUSED;
    }
    thought.becomeLike(family);
    thought.passSunday();
    int unbounded = family.moods[other] + thought.felt[other];
    int most = thought.moods[other];
    int which = NONE;
    int open = family.used & ~family.layersOf(one, other);
    for (int layer = 0; layer < LAYERS; layer++) {
      if ((open >> layer & 1) != 0) {
        int mood = bounded(unbounded + family.feelsBy(other, one, layer));
        if (mood > most) {
          most = mood;
          which = layer;
        }
      }
    }
    return what == 0 ? which : most;
  }

  private static int bounded(int mood) {
    return Math.max(-MOOD_MOST, Math.min(MOOD_MOST, mood));
  }

  // ---- moods that were told

  public int tells(int sheet, int one, int what) {
    if (!isSheet(sheet) || !isPerson(one) || !isIn(what, 0, 5)) {
      return REFUSED;
    }
    Sheet row = sheets[sheet];
    if (row.isMissing()) {
      return MISSING;
    }
    if (row.size > TOLD_MOST) {
      return REFUSED;
    }
    switch (what) {
      case 0:
        thought.becomeLike(family);
        return thought.firstOtherwise(row, one);
      case 3:
      case 4:
        return moodsSo(row, one, what == 4);
      default:
        return bitsSo(row, one, what);
    }
  }

  /** Bits of what one's kind (what 1), number (2), or the rule (5) could be so that all is so. */
  private int bitsSo(Sheet row, int one, int what) {
    int most = what == 1 ? KINDS : what == 2 ? NUMBERS : textCount;
    int bits = 0;
    for (int v = 0; v < most; v++) {
      thought.becomeLike(family);
      if (what == 1) {
        thought.kinds[one] = v;
      } else if (what == 2) {
        thought.numbers[one] = v;
      } else {
        thought.rule = v;
      }
      if (thought.firstOtherwise(row, one) == NONE) {
        bits |= 1 << v;
      }
    }
    return bits;
  }

  /** The moods in which one could be now so that all is so: how many, or the least. */
  private int moodsSo(Sheet row, int one, boolean asksLeast) {
    int found = 0;
    int least = NO_MOOD;
    for (int mood = -MOOD_MOST; mood <= MOOD_MOST; mood++) {
      thought.becomeLike(family);
      thought.moods[one] = mood;
      if (thought.firstOtherwise(row, one) == NONE) {
        least = found == 0 ? mood : least;
        found++;
      }
    }
    return asksLeast ? least : found;
  }

  public int film(int sheet, int one, int n) {
    if (!isSheet(sheet) || !isPerson(one) || !isIn(n, 0, TOLD_MOST)) {
      return BAD;
    }
    Sheet row = sheets[sheet];
    row.clear(BYTES, n);
    thought.becomeLike(family);
    for (int i = 0; i < n; i++) {
      thought.passSunday();
      row.put(i, thought.moods[one]);
    }
    return n;
  }

  public int drawn(int seed) {
    thought.becomeLike(family);
    thought.drawMoods(seed);
    return thought.gladBehind(DRAWN_AHEAD);
  }

  public long chance(int seed, int m, int k, int part) {
    if (!isIn(m, 1, SEEDS_MOST) || !isIn(k, -CHANCE_MOST, CHANCE_MOST) || !isIn(part, 0, 1)) {
      return NO;
    }
    int above = 0;
    for (int i = 0; i < m; i++) {
      thought.becomeLike(family);
      thought.drawMoods(seed + i);
      if (thought.gladBehind(DRAWN_AHEAD) >= k) {
        above++;
      }
    }
    int shared = sharedDivisor(above, m);
    return part == 0 ? above / shared : m / shared;
  }

  /** The greatest number by which both can be divided; m is 1 or more. */
  private static int sharedDivisor(int above, int m) {
    for (int d = m; d > 1; d--) {
      if (above % d == 0 && m % d == 0) {
        return d;
      }
    }
    return 1;
  }

  public int image() {
    kept.becomeLike(family);
    isKept = true;
    return kept.size;
  }

  public int back() {
    if (!isKept) {
      return STATE;
    }
    family.becomeLike(kept);
    return family.size;
  }

  public int count(int what) {
    switch (what) {
      case 0:
        return family.size;
      case 1:
        return Integer.bitCount(family.used);
      case 2:
        return family.sunday;
      case 3:
        return textCount;
      case 4:
        return reader.size;
      case 5:
        return family.rule;
      default:
        return BAD;
    }
  }

  // ---- the host

  public int sheet(int sheet, int sort, int n) {
    if (!isSheet(sheet) || !isIn(sort, NONE, INTS)) {
      return BAD;
    }
    if (sort == NONE) {
      sheets[sheet].clear(NONE, 0);
      return 1;
    }
    if (n > SHEET_MOST) {
      return BAD;
    }
    if (n < 0) {
      return BELOW_ZERO;
    }
    sheets[sheet].clear(sort, n);
    return 1;
  }

  public int cell(int sheet, int i, int v) {
    if (!isSheet(sheet)) {
      return BAD;
    }
    Sheet row = sheets[sheet];
    if (row.isMissing()) {
      return MISSING;
    }
    if (!row.hasItem(i)) {
      return OUTSIDE;
    }
    row.put(i, v);
    return 1;
  }

  public int copy(int sheet, int i, int other, int j, int n) {
    if (!isSheet(sheet) || !isSheet(other)) {
      return BAD;
    }
    Sheet from = sheets[sheet];
    Sheet to = sheets[other];
    if (from.isMissing() || to.isMissing()) {
      return MISSING;
    }
    if (from.sort != to.sort) {
      return OTHER_SORT;
    }
    if (!from.hasPiece(i, n) || !to.hasPiece(j, n)) {
      return OUTSIDE;
    }
    System.arraycopy(from.items, i, to.items, j, n);
    return n;
  }

  public int people(int sheet, int sort, int from, int n) {
    if (!isSheet(sheet) || !isIn(sort, BYTES, INTS) || !isIn(n, 0, PEOPLE_MOST)) {
      return BAD;
    }
    Sheet row = sheets[sheet];
    // a missing sheet can be taken for one of any sort, so it is no other sort
    if (row.isMissing()) {
      return MISSING;
    }
    if (row.sort != sort) {
      return OTHER_SORT;
    }
    int came = 0;
    for (int i = 0; i < n; i++) {
      int at = from + 2 * i;
      if (!row.hasPiece(at, 2)) {
        return OUTSIDE;
      }
      if (person(row.items[at], row.items[at + 1]) >= 0) {
        came++;
      }
    }
    return came;
  }

  public int taken(int one, int k) {
    if (!isIn(k, 0, KINDS - 1)) {
      return BAD;
    }
    if (!isPerson(one)) {
      return MISSING;
    }
    int kind = family.kinds[one];
    for (int i = 0; i < KINDS && isIn(kind, 0, KINDS - 1); i++) {
      if (kind == k) {
        return family.numbers[one];
      }
      kind = UNDER[kind];
    }
    return OTHER_SORT;
  }

  private static boolean isSheet(int sheet) {
    return isIn(sheet, 0, SHEETS - 1);
  }

  /** People as they are, as they are thought to be, or as an image keeps them. */
  private static final class Family {
    final int[] kinds = new int[PEOPLE_MOST];
    final int[] numbers = new int[PEOPLE_MOST];
    final int[] moods = new int[PEOPLE_MOST];
    /** What each one felt by all that came on the Sunday that was last. */
    final int[] felt = new int[PEOPLE_MOST];
    int size;
    int used = ALL_LAYERS;
    int sunday;
    int rule;
    /** The one who neither sends nor gets anything. */
    int leftOut = NONE;
    private final Text[] texts;
    private final int[] names = new int[NAMES];
    private final int[] stack = new int[TAPE_MOST];

    Family(Text[] texts) {
      this.texts = texts;
    }

    void becomeLike(Family other) {
      for (int one = 0; one < PEOPLE_MOST; one++) {
        kinds[one] = other.kinds[one];
        numbers[one] = other.numbers[one];
        moods[one] = other.moods[one];
      }
      size = other.size;
      used = other.used;
      sunday = other.sunday;
      rule = other.rule;
      leftOut = other.leftOut;
    }

    /** One more: the number, or FULL. */
    int takeIn(int kind, int number) {
      if (size >= PEOPLE_MOST) {
        return FULL;
      }
      kinds[size] = kind;
      numbers[size] = number;
      moods[size] = 0;
      size++;
      return size - 1;
    }

    int glad() {
      int sum = 0;
      for (int one = 0; one < size; one++) {
        sum += moods[one];
      }
      return sum;
    }

    /** All moods in one number, another one for other moods: 41 to the 5th is an int. */
    int allMoods() {
      int key = 0;
      for (int one = 0; one < size; one++) {
        key = key * (2 * MOOD_MOST + 1) + moods[one] + MOOD_MOST;
      }
      return key;
    }

    void drawMoods(int seed) {
      int z = seed;
      for (int one = 0; one < size; one++) {
        z = z * 1103515245 + 12345;
        moods[one] = (z >>> 9) % 41 - 20;
      }
    }

    // ---- what one sends, and feels

    boolean sendsTo(int one, int other) {
      nameAll(0, one, other, one, other);
      boolean yes = texts[rule].valueOf(SENDS, names, stack) != 0;
      switch (kinds[one]) {
        case MOTHER:
        case GRANDMOTHER:
          return true;
        case INLAW:
          return inlawSends(one, yes);
        case BROTHER:
          return inlawSends(one, yes) || other == numbers[one];
        default:
          return yes;
      }
    }

    private boolean inlawSends(int one, boolean yes) {
      return yes && moods[one] >= -5;
    }

    /** The sandwich of one for the other one: bits of its layers. */
    int layersOf(int one, int other) {
      boolean isOut = one == leftOut || other == leftOut;
      if (one == other || isOut || !sendsTo(one, other)) {
        return 0;
      }
      int bits = 0;
      for (int layer = 0; layer < LAYERS; layer++) {
        if ((used >> layer & 1) != 0 && cutsFor(one, other, layer)) {
          bits |= 1 << layer;
        }
      }
      return bits;
    }

    private boolean cutsFor(int one, int other, int layer) {
      nameAll(layer, one, other, one, other);
      boolean yes = texts[rule].valueOf(CUTS, names, stack) != 0;
      switch (kinds[one]) {
        case MOTHER:
          return motherCuts(one, layer, yes);
        case INLAW:
          return inlawCuts(layer, yes);
        case GRANDMOTHER:
          return motherCuts(one, layer, yes) && layer != 7;
        case BROTHER:
          return inlawCuts(layer, yes) || layer == 3 && moods[one] < 0;
        case CHILD:
          return layer < 3 || moods[one] >= 10;
        default:
          return yes;
      }
    }

    private boolean motherCuts(int one, int layer, boolean yes) {
      return yes || layer == numbers[one] % LAYERS;
    }

    private static boolean inlawCuts(int layer, boolean yes) {
      return yes && layer % 2 == 0;
    }

    /** What one feels by a layer that came from the sender. */
    int feelsBy(int one, int sender, int layer) {
      nameAll(layer, one, sender, sender, one);
      int v = bounded(texts[rule].valueOf(FEELS, names, stack));
      switch (kinds[one]) {
        case MOTHER:
          return Math.max(-1, v);
        case INLAW:
          return bounded(2 * v);
        case GRANDMOTHER:
          return bounded(Math.max(-1, v) + 1);
        case BROTHER:
          // an inlaw's feeling has its bound already ahead of being halved
          return bounded(bounded(2 * v) / 2 - numbers[one]);
        case CHILD:
          return layer >= 4 ? 0 : v;
        default:
          return v;
      }
    }

    /** What the names of a text tell, in the order of WORDS. */
    private void nameAll(int layer, int one, int other, int from, int to) {
      names[0] = layer;
      names[1] = moods[one];
      names[2] = numbers[one];
      names[3] = moods[other];
      names[4] = from;
      names[5] = to;
    }

    int feltFrom(int sender, int one) {
      int bits = layersOf(sender, one);
      int sum = 0;
      for (int layer = 0; layer < LAYERS; layer++) {
        if ((bits >> layer & 1) != 0) {
          sum += feelsBy(one, sender, layer);
        }
      }
      return sum;
    }

    // ---- Sundays

    /** A Sunday for all moods: whether one became otherwise. */
    boolean passSunday() {
      for (int one = 0; one < size; one++) {
        felt[one] = 0;
        for (int sender = 0; sender < size; sender++) {
          felt[one] += feltFrom(sender, one);
        }
      }
      boolean moved = false;
      for (int one = 0; one < size; one++) {
        int mood = bounded(moods[one] + felt[one]);
        moved = moved || mood != moods[one];
        moods[one] = mood;
      }
      return moved;
    }

    int gladBehind(int n) {
      boolean moved = true;
      // once no mood moves, none ever will
      for (int i = 0; i < n && moved; i++) {
        moved = passSunday();
      }
      return glad();
    }

    /** How many sandwiches are empty in n Sundays. */
    int emptyBehind(int n) {
      int sum = 0;
      for (int i = 0; i < n; i++) {
        for (int one = 0; one < size; one++) {
          sum += size - 1 - filledFrom(one);
        }
        passSunday();
      }
      return sum;
    }

    /** The first place where the row tells another mood of one than comes; NONE. */
    int firstOtherwise(Sheet row, int one) {
      for (int i = 0; i < row.size; i++) {
        passSunday();
        if (row.items[i] != moods[one]) {
          return i;
        }
      }
      return NONE;
    }

    // ---- who gets what

    int filledFrom(int one) {
      int filled = 0;
      for (int other = 0; other < size; other++) {
        if (layersOf(one, other) != 0) {
          filled++;
        }
      }
      return filled;
    }

    int layersTo(int one) {
      int sum = 0;
      for (int sender = 0; sender < size; sender++) {
        sum += Integer.bitCount(layersOf(sender, one));
      }
      return sum;
    }

    int lettuceCount() {
      int found = 0;
      for (int one = 0; one < size; one++) {
        for (int other = 0; other < size; other++) {
          if (layersOf(one, other) == 1) {
            found++;
          }
        }
      }
      return found;
    }

    int lettuceFirst() {
      for (int one = 0; one < size; one++) {
        for (int other = 0; other < size; other++) {
          if (layersOf(one, other) == 1) {
            return 10 * one + other;
          }
        }
      }
      return NONE;
    }

    int leftAlone() {
      int bits = 0;
      for (int one = 0; one < size; one++) {
        if (layersTo(one) == 0) {
          bits |= 1 << one;
        }
      }
      return bits;
    }
  }

  /** A text as it was read: three parts, each a row of steps for a stack. */
  private static final class Text {
    private final int[] steps = new int[TAPE_MOST];
    /** Where each part begins, and behind them where the last one ends. */
    private final int[] begins = new int[PARTS + 1];
    private int size;

    void empty() {
      size = 0;
    }

    void beginPart(int part) {
      begins[part] = size;
    }

    void takeStep(int step) {
      // no token makes two steps, so that there is room for those of any tape
      if (size < steps.length) {
        steps[size] = step;
        size++;
      }
    }

    int valueOf(int part, int[] names, int[] stack) {
      int top = 0;
      stack[0] = 0;
      for (int i = begins[part]; i < begins[part + 1]; i++) {
        int step = steps[i];
        if (step > NOT_STEP && top < stack.length) {
          stack[top] = step >= 0 ? step : names[-1 - step];
          top++;
        } else if (step >= MINUS_STEP && top >= 1) {
          int a = stack[top - 1];
          stack[top - 1] = step == MINUS_STEP ? -a : a == 0 ? 1 : 0;
        } else if (top >= 2) {
          top--;
          int a = stack[top - 1];
          int b = stack[top];
          switch (step) {
            case OR_STEP:
              stack[top - 1] = a != 0 || b != 0 ? 1 : 0;
              break;
            case AND_STEP:
              stack[top - 1] = a != 0 && b != 0 ? 1 : 0;
              break;
            case LESS_STEP:
              stack[top - 1] = a < b ? 1 : 0;
              break;
            case SAME_STEP:
              stack[top - 1] = a == b ? 1 : 0;
              break;
            case ADD_STEP:
              stack[top - 1] = a + b;
              break;
            case TAKE_STEP:
              stack[top - 1] = a - b;
              break;
            default:
              stack[top - 1] = a * b;
              break;
          }
        }
      }
      return stack[0];
    }
  }

  /** The tape, and how a text is read from it. */
  private static final class Reader {
    int size;
    private final int[] tape = new int[TAPE_MOST];
    private Text into;
    private int place;
    /** Where the token that is looked at begins, what it is, and its number. */
    private int start;
    private int token;
    private int value;
    private int open;
    private int fault;

    boolean takeByte(int letter) {
      if (size >= TAPE_MOST) {
        return false;
      }
      tape[size] = letter;
      size++;
      return true;
    }

    /** Reads the tape as a text: the place of its fault, or NO_FAULT. */
    int readInto(Text text) {
      into = text;
      into.empty();
      place = 0;
      open = 0;
      fault = NO_FAULT;
      readToken();
      for (int part = 0; part < PARTS; part++) {
        into.beginPart(part);
        pass(CUTS_KEY + part);
        readOr();
        pass(';');
      }
      into.beginPart(PARTS);
      pass(END);
      return fault;
    }

    private void pass(int wanted) {
      if (token == wanted) {
        readToken();
      } else {
        fail();
      }
    }

    /** The first fault stays; behind it no token can stand anywhere, so that reading ends soon. */
    private void fail() {
      if (fault == NO_FAULT) {
        fault = start;
      }
      token = NO_TOKEN;
    }

    // ---- what tokens make

    private void readOr() {
      readAnd();
      for (int i = 0; i < TAPE_MOST && token == OR_KEY; i++) {
        readToken();
        readAnd();
        into.takeStep(OR_STEP);
      }
    }

    private void readAnd() {
      readNot();
      for (int i = 0; i < TAPE_MOST && token == AND_KEY; i++) {
        readToken();
        readNot();
        into.takeStep(AND_STEP);
      }
    }

    private void readNot() {
      if (token != NOT_KEY) {
        readCompared();
      } else if (opens()) {
        readNot();
        into.takeStep(NOT_STEP);
        open--;
      }
    }

    private void readCompared() {
      readSum();
      if (token == '<' || token == '=') {
        int step = token == '<' ? LESS_STEP : SAME_STEP;
        readToken();
        readSum();
        into.takeStep(step);
      }
    }

    private void readSum() {
      readTerm();
      for (int i = 0; i < TAPE_MOST && (token == '+' || token == '-'); i++) {
        int step = token == '+' ? ADD_STEP : TAKE_STEP;
        readToken();
        readTerm();
        into.takeStep(step);
      }
    }

    private void readTerm() {
      readOne();
      for (int i = 0; i < TAPE_MOST && token == '*'; i++) {
        readToken();
        readOne();
        into.takeStep(TIMES_STEP);
      }
    }

    private void readOne() {
      switch (token) {
        case NUMERAL:
          into.takeStep(value);
          readToken();
          break;
        case NAME:
          into.takeStep(-1 - value);
          readToken();
          break;
        case '-':
          if (opens()) {
            readOne();
            into.takeStep(MINUS_STEP);
            open--;
          }
          break;
        case '(':
          if (opens()) {
            readOr();
            pass(')');
            open--;
          }
          break;
        default:
          fail();
          break;
      }
    }

    /** Goes into a bracket, a not or a minus, if not too many are open. */
    private boolean opens() {
      if (open >= OPEN_MOST) {
        fail();
        return false;
      }
      open++;
      readToken();
      return true;
    }

    // ---- tokens

    private void readToken() {
      if (fault != NO_FAULT) {
        return;
      }
      while (place < size && (tape[place] == 32 || tape[place] == 10)) {
        place++;
      }
      start = place;
      if (place >= size) {
        token = END;
      } else if (isIn(tape[place], 'a', 'z')) {
        readWord();
      } else if (isIn(tape[place], '0', '9')) {
        readNumeral();
      } else {
        token = SIGNS.indexOf((char) tape[place]) >= 0 ? tape[place] : NO_TOKEN;
        place++;
      }
    }

    private void readNumeral() {
      value = 0;
      while (place < size && isIn(tape[place], '0', '9')) {
        value = value * 10 + tape[place] - '0';
        place++;
      }
      token = place - start <= DIGITS_MOST ? NUMERAL : NO_TOKEN;
    }

    private void readWord() {
      while (place < size && isIn(tape[place], 'a', 'z')) {
        place++;
      }
      value = wordNumber();
      if (value == NONE) {
        token = NO_TOKEN;
      } else {
        token = value < NAMES ? NAME : CUTS_KEY + value - NAMES;
      }
    }

    /** Which of WORDS stands from start to place; NONE. */
    private int wordNumber() {
      int word = 0;
      int at = start;
      boolean same = true;
      for (int i = 0; i < WORDS.length(); i++) {
        char letter = WORDS.charAt(i);
        if (letter != ' ') {
          same = same && at < place && tape[at] == letter;
          at++;
        } else if (same && at == place) {
          return word;
        } else {
          word++;
          at = start;
          same = true;
        }
      }
      return NONE;
    }
  }

  /** A row of numbers of a sort, or missing (sort NONE). */
  private static final class Sheet {
    final int[] items = new int[SHEET_MOST];
    int sort = NONE;
    int size;

    boolean isMissing() {
      return sort == NONE;
    }

    void clear(int newSort, int newSize) {
      sort = newSort;
      size = newSize;
      for (int i = 0; i < SHEET_MOST; i++) {
        items[i] = 0;
      }
    }

    boolean hasItem(int i) {
      return i >= 0 && i < size;
    }

    boolean hasPiece(int i, int n) {
      return i >= 0 && n >= 0 && i <= size - n;
    }

    void put(int i, int v) {
      switch (sort) {
        case BYTES:
          items[i] = (byte) v;
          break;
        case SHORTS:
          items[i] = (short) v;
          break;
        default:
          items[i] = v;
          break;
      }
    }
  }
}
