import java.util.Arrays;

/**
 * Tokens by pairs: learns tokens from a text of bytes, the most frequent pair first, and tells
 * texts in tokens, by the order of what was learned or as the row with the most points.
 */
public final class PairTokens {
  private static final int NO_SUCH = -1;
  private static final int OUT_OF_BOUNDS = -2;
  private static final int NO_ROOM = -4;

  private static final int TEXT_ROOM = 120;
  private static final int SPACE = 32;
  private static final int BYTES = 256;
  private static final int LEARNED_ROOM = 32;
  private static final int LEAST_COUNT = 2;
  private static final int BYTE_POINTS = -10;
  private static final int MOST_POINTS = 100;
  private static final int MOST_WAYS = 1000000;

  /** A power of two, and more than twice the pairs that a text can have, so a slot is always free. */
  private static final int SLOTS = 256;
  /** Above every token, so that the order of keys is the order of pairs. */
  private static final int KEY_STEP = 512;

  private final Text text = new Text();
  private final Vocabulary vocabulary = new Vocabulary();
  private final Row row = new Row();
  private final PairCounter counter = new PairCounter();
  private final Choices choices = new Choices();

  public PairTokens() {
  }

  // ---- the text

  public int octet(int b) {
    if (b < 0 || b >= BYTES) {
      return OUT_OF_BOUNDS;
    }
    if (text.length >= TEXT_ROOM) {
      return NO_ROOM;
    }
    text.append(b);
    return text.length;
  }

  public int cut(int n) {
    if (n < 0 || n > text.length) {
      return OUT_OF_BOUNDS;
    }
    int had = text.length;
    text.length = n;
    return had;
  }

  public int byteAt(int i) {
    if (i < 0 || i >= text.length) {
      return NO_SUCH;
    }
    return text.octets[i];
  }

  public int words() {
    int found = 0;
    for (int place = 0; place < text.length; place++) {
      if (text.beginsWord(place)) {
        found++;
      }
    }
    return found;
  }

  // ---- learning

  public int learn(int n) {
    if (n < 0 || n > LEARNED_ROOM) {
      return OUT_OF_BOUNDS;
    }
    vocabulary.startFrom(text);
    row.spell(text);
    for (int round = 0; round < n; round++) {
      if (!learnNext()) {
        break;
      }
    }
    return vocabulary.learned;
  }

  public int pair(int token, int side) {
    if (!vocabulary.isLearned(token)) {
      return NO_SUCH;
    }
    if (side != 0 && side != 1) {
      return OUT_OF_BOUNDS;
    }
    int index = token - BYTES;
    return side == 0 ? vocabulary.firsts[index] : vocabulary.seconds[index];
  }

  public int count(int token) {
    if (!vocabulary.isLearned(token)) {
      return NO_SUCH;
    }
    return vocabulary.counts[token - BYTES];
  }

  public int size(int token) {
    if (!vocabulary.isToken(token)) {
      return NO_SUCH;
    }
    return vocabulary.sizeOf(token);
  }

  public int decode(int token, int i) throws ArrayIndexOutOfBoundsException {
    if (!vocabulary.isToken(token)) {
      return NO_SUCH;
    }
    if (i < 0 || i >= vocabulary.sizeOf(token)) {
      throw new ArrayIndexOutOfBoundsException("the token has no such byte");
    }
    return vocabulary.byteOf(token, i);
  }

  // ---- telling

  public int tokens() {
    tellText();
    return row.length;
  }

  public int at(int i) {
    tellText();
    if (i < 0 || i >= row.length) {
      return NO_SUCH;
    }
    return row.cells[i];
  }

  public int from(int i) {
    tellText();
    if (i < 0 || i >= row.length) {
      return NO_SUCH;
    }
    return row.starts[i];
  }

  // ---- points

  public int points(int token, int points) {
    if (!vocabulary.isToken(token)) {
      return NO_SUCH;
    }
    if (points < -MOST_POINTS || points > MOST_POINTS) {
      return OUT_OF_BOUNDS;
    }
    vocabulary.worth[token] = points;
    return 1;
  }

  public int best() {
    choices.weigh(text, vocabulary);
    return choices.lengths[0];
  }

  public int bestAt(int i) {
    choices.weigh(text, vocabulary);
    if (i < 0 || i >= choices.lengths[0]) {
      return NO_SUCH;
    }
    return choices.chosenAfter(i, vocabulary);
  }

  public int sum() {
    choices.weigh(text, vocabulary);
    return choices.sums[0];
  }

  public int ways() {
    choices.weigh(text, vocabulary);
    return choices.manners[0];
  }

  /** Learns one token more from the row as it stands; false if no pair counts enough. */
  private boolean learnNext() {
    counter.countPairs(row);
    int slot = counter.mostFrequent();
    if (slot < 0 || counter.counts[slot] < LEAST_COUNT || vocabulary.learned >= LEARNED_ROOM) {
      return false;
    }
    int first = counter.keys[slot] / KEY_STEP;
    int second = counter.keys[slot] % KEY_STEP;
    int token = BYTES + vocabulary.learned;
    vocabulary.add(first, second, counter.counts[slot], counter.places[slot]);
    row.merge(first, second, token);
    return true;
  }

  /**
   * A merged pair makes only pairs that were learned after it. So the pair learned first among
   * those that stand there is never one that was dealt with before, and one pass for each learned
   * token, in their order, does the same as looking for the first pair again and again.
   */
  private void tellText() {
    row.spell(text);
    for (int index = 0; index < vocabulary.learned; index++) {
      row.merge(vocabulary.firsts[index], vocabulary.seconds[index], BYTES + index);
    }
  }

  /** The bytes that were put in. */
  private static final class Text {
    final int[] octets = new int[TEXT_ROOM];
    int length = 0;

    Text() {
    }

    void append(int b) {
      if (length < TEXT_ROOM) {
        octets[length] = b;
        length++;
      }
    }

    boolean beginsWord(int place) {
      if (place < 0 || place >= length) {
        return false;
      }
      return place == 0 || (octets[place] == SPACE && octets[place - 1] != SPACE);
    }
  }

  /** The learned tokens, and the points of all tokens. */
  private static final class Vocabulary {
    final int[] firsts = new int[LEARNED_ROOM];
    final int[] seconds = new int[LEARNED_ROOM];
    final int[] counts = new int[LEARNED_ROOM];
    final int[] sizes = new int[LEARNED_ROOM];
    final int[] worth = new int[BYTES + LEARNED_ROOM];
    int learned = 0;

    /**
     * The text that was learned from, and where in it each learned token stood: its bytes are read
     * there, so they need no room of their own and do not change when the text does.
     */
    private final int[] source = new int[TEXT_ROOM];
    private final int[] places = new int[LEARNED_ROOM];

    Vocabulary() {
      Arrays.fill(worth, BYTE_POINTS);
    }

    /** Forgets all that was learned. */
    void startFrom(Text text) {
      System.arraycopy(text.octets, 0, source, 0, TEXT_ROOM);
      learned = 0;
    }

    boolean isToken(int token) {
      return token >= 0 && token < BYTES + learned;
    }

    boolean isLearned(int token) {
      return token >= BYTES && token < BYTES + learned;
    }

    void add(int first, int second, int counted, int place) {
      if (learned < LEARNED_ROOM) {
        firsts[learned] = first;
        seconds[learned] = second;
        counts[learned] = counted;
        sizes[learned] = sizeOf(first) + sizeOf(second);
        places[learned] = place;
        worth[BYTES + learned] = sizes[learned];
        learned++;
      }
    }

    int sizeOf(int token) {
      return isLearned(token) ? sizes[token - BYTES] : 1;
    }

    int byteOf(int token, int i) {
      if (!isLearned(token)) {
        return token;
      }
      int place = places[token - BYTES] + i;
      return place >= 0 && place < TEXT_ROOM ? source[place] : NO_SUCH;
    }

    /**
     * A learned token was part of a word, so no word begins inside its bytes: where they stand in a
     * text, they stand in one word.
     */
    boolean standsAt(int token, Text text, int place) {
      int size = sizeOf(token);
      if (place < 0 || place > text.length - size) {
        return false;
      }
      for (int i = 0; i < size; i++) {
        if (text.octets[place + i] != byteOf(token, i)) {
          return false;
        }
      }
      return true;
    }
  }

  /** The rows of all words, one behind the other. */
  private static final class Row {
    final int[] cells = new int[TEXT_ROOM];
    final int[] starts = new int[TEXT_ROOM];
    int length = 0;
    private final boolean[] wordBegins = new boolean[TEXT_ROOM];

    Row() {
    }

    void spell(Text text) {
      length = text.length;
      for (int place = 0; place < length; place++) {
        cells[place] = text.octets[place];
        starts[place] = place;
        wordBegins[place] = text.beginsWord(place);
      }
    }

    /** Whether the token there has a next one in its own word. */
    boolean hasNext(int index) {
      return index >= 0 && index < length - 1 && !wordBegins[index + 1];
    }

    /** The token takes the place of its two, from the left on. */
    void merge(int first, int second, int token) {
      int kept = 0;
      for (int index = 0; index < length; index++) {
        boolean merged = cells[index] == first && hasNext(index) && cells[index + 1] == second;
        cells[kept] = merged ? token : cells[index];
        starts[kept] = starts[index];
        wordBegins[kept] = wordBegins[index];
        kept++;
        if (merged) {
          index++;
        }
      }
      length = kept;
    }
  }

  /** How often each pair stands in a row: a table that is looked up by the pair's key. */
  private static final class PairCounter {
    final int[] keys = new int[SLOTS];
    final int[] counts = new int[SLOTS];
    /** Where in the text each pair stands first. */
    final int[] places = new int[SLOTS];

    PairCounter() {
    }

    void countPairs(Row row) {
      Arrays.fill(counts, 0);
      for (int index = 0; index < row.length; index++) {
        if (row.hasNext(index)) {
          add(row.cells[index], row.cells[index + 1], row.starts[index]);
        }
      }
    }

    /** The slot of the pair that counts most, of several the least pair; below 0 without pairs. */
    int mostFrequent() {
      int most = -1;
      for (int slot = 0; slot < SLOTS; slot++) {
        if (counts[slot] > 0 && (most < 0 || isAhead(slot, most))) {
          most = slot;
        }
      }
      return most;
    }

    private boolean isAhead(int slot, int other) {
      if (counts[slot] != counts[other]) {
        return counts[slot] > counts[other];
      }
      return keys[slot] < keys[other];
    }

    private void add(int first, int second, int place) {
      int key = first * KEY_STEP + second;
      int slot = (first * 31 + second) & (SLOTS - 1);
      for (int tries = 0; tries < SLOTS; tries++) {
        if (counts[slot] == 0) {
          keys[slot] = key;
          places[slot] = place;
        }
        if (keys[slot] == key) {
          counts[slot]++;
          return;
        }
        slot = (slot + 1) & (SLOTS - 1);
      }
    }
  }

  /**
   * For each place of the text, what the choices from there to the end are like. No token reaches
   * over the end of a word, so the whole text can be dealt with as one row.
   */
  private static final class Choices {
    final int[] sums = new int[TEXT_ROOM + 1];
    final int[] lengths = new int[TEXT_ROOM + 1];
    final int[] manners = new int[TEXT_ROOM + 1];
    private final int[] chosen = new int[TEXT_ROOM + 1];

    Choices() {
    }

    void weigh(Text text, Vocabulary vocabulary) {
      int end = text.length;
      sums[end] = 0;
      lengths[end] = 0;
      manners[end] = 1;
      for (int place = end - 1; place >= 0; place--) {
        startWithByte(place, text.octets[place], vocabulary);
        for (int token = BYTES; token < BYTES + vocabulary.learned; token++) {
          if (vocabulary.standsAt(token, text, place)) {
            startWithLearned(place, token, vocabulary);
          }
        }
      }
    }

    /** The token of the best choice that has so many ahead of it. */
    int chosenAfter(int ahead, Vocabulary vocabulary) {
      int place = 0;
      for (int passed = 0; passed < ahead && place < TEXT_ROOM; passed++) {
        place += vocabulary.sizeOf(chosen[place]);
      }
      return place >= 0 && place < TEXT_ROOM ? chosen[place] : NO_SUCH;
    }

    private void startWithByte(int place, int octet, Vocabulary vocabulary) {
      sums[place] = vocabulary.worth[octet] + sums[place + 1];
      lengths[place] = 1 + lengths[place + 1];
      manners[place] = manners[place + 1];
      chosen[place] = octet;
    }

    private void startWithLearned(int place, int token, Vocabulary vocabulary) {
      int next = place + vocabulary.sizeOf(token);
      int newSum = vocabulary.worth[token] + sums[next];
      int newLength = 1 + lengths[next];
      manners[place] = Math.min(MOST_WAYS, manners[place] + manners[next]);
      // Tokens come in rising order, so of two that are alike the lesser one is kept.
      if (newSum > sums[place] || (newSum == sums[place] && newLength < lengths[place])) {
        sums[place] = newSum;
        lengths[place] = newLength;
        chosen[place] = token;
      }
    }
  }
}
