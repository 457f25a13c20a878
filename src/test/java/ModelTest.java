import java.math.BigInteger;
import java.util.ArrayList;
import java.util.Arrays;
import java.util.List;
import java.util.Random;

/**
 * Runs of calls, drawn from fixed seeds, on PairTokens and on a model that follows the words of the
 * document one by one, without regard to speed.
 */
public final class ModelTest {
  private static final int RUNS = 600;
  /** The document tells of 512 calls at most, and the last step may make some 130 of them. */
  private static final int CALLS = 380;
  /** What a throw of ArrayIndexOutOfBoundsException is told as. */
  private static final int THROWN = -99;

  /** The document's words, made into lists. */
  private static final class Model {
    final List<Integer> text = new ArrayList<>();
    final List<int[]> learned = new ArrayList<>();
    final List<Integer> counts = new ArrayList<>();
    final int[] points = new int[288];

    Model() {
      Arrays.fill(points, -10);
    }

    List<List<Integer>> wordRows() {
      List<List<Integer>> words = new ArrayList<>();
      for (int i = 0; i < text.size(); i++) {
        if (i == 0 || (text.get(i) == 32 && text.get(i - 1) != 32)) {
          words.add(new ArrayList<>());
        }
        words.get(words.size() - 1).add(text.get(i));
      }
      return words;
    }

    boolean isToken(int token) {
      return token >= 0 && token < 256 + learned.size();
    }

    List<Integer> bytesOf(int token) {
      List<Integer> bytes = new ArrayList<>();
      if (token < 256) {
        bytes.add(token);
      } else {
        bytes.addAll(bytesOf(learned.get(token - 256)[0]));
        bytes.addAll(bytesOf(learned.get(token - 256)[1]));
      }
      return bytes;
    }

    int countIn(List<List<Integer>> rows, int first, int second) {
      int n = 0;
      for (List<Integer> row : rows) {
        for (int i = 0; i + 1 < row.size(); i++) {
          if (row.get(i) == first && row.get(i + 1) == second) {
            n++;
          }
        }
      }
      return n;
    }

    int[] mostFrequent(List<List<Integer>> rows) {
      int[] most = null;
      int mostCount = 1;
      for (List<Integer> row : rows) {
        for (int i = 0; i + 1 < row.size(); i++) {
          int[] pair = {row.get(i), row.get(i + 1)};
          int count = countIn(rows, pair[0], pair[1]);
          if (count > mostCount
              || (most != null && count == mostCount && Arrays.compare(pair, most) < 0)) {
            most = pair;
            mostCount = count;
          }
        }
      }
      return most;
    }

    int learn(int n) {
      if (n < 0 || n > 32) {
        return -2;
      }
      learned.clear();
      counts.clear();
      List<List<Integer>> rows = wordRows();
      while (learned.size() < n) {
        int[] pair = mostFrequent(rows);
        if (pair == null) {
          break;
        }
        counts.add(countIn(rows, pair[0], pair[1]));
        learned.add(pair);
        int token = 255 + learned.size();
        points[token] = bytesOf(token).size();
        for (List<Integer> row : rows) {
          for (int i = 0; i + 1 < row.size(); i++) {
            if (row.get(i) == pair[0] && row.get(i + 1) == pair[1]) {
              row.set(i, token);
              row.remove(i + 1);
            }
          }
        }
      }
      return learned.size();
    }

    int rank(int first, int second) {
      for (int k = 0; k < learned.size(); k++) {
        if (learned.get(k)[0] == first && learned.get(k)[1] == second) {
          return k;
        }
      }
      return 1000;
    }

    List<Integer> told() {
      List<Integer> all = new ArrayList<>();
      for (List<Integer> row : wordRows()) {
        while (true) {
          int place = -1;
          int least = 1000;
          for (int i = 0; i + 1 < row.size(); i++) {
            int rank = rank(row.get(i), row.get(i + 1));
            if (rank < least) {
              least = rank;
              place = i;
            }
          }
          if (place < 0) {
            break;
          }
          row.set(place, 256 + least);
          row.remove(place + 1);
        }
        all.addAll(row);
      }
      return all;
    }

    int beginOf(List<Integer> row, int i) {
      int place = 0;
      for (int k = 0; k < i; k++) {
        place += bytesOf(row.get(k)).size();
      }
      return place;
    }

    int sumOf(List<Integer> row) {
      int sum = 0;
      for (int token : row) {
        sum += points[token];
      }
      return sum;
    }

    /** Whether one row is ahead of the other among the choices. */
    boolean ahead(List<Integer> row, List<Integer> other) {
      if (sumOf(row) != sumOf(other)) {
        return sumOf(row) > sumOf(other);
      }
      if (row.size() != other.size()) {
        return row.size() < other.size();
      }
      for (int i = 0; i < row.size(); i++) {
        if (!row.get(i).equals(other.get(i))) {
          return row.get(i) < other.get(i);
        }
      }
      return false;
    }

    boolean fits(List<Integer> word, int place, List<Integer> bytes) {
      return place + bytes.size() <= word.size()
          && word.subList(place, place + bytes.size()).equals(bytes);
    }

    List<List<Integer>> allBytes() {
      List<List<Integer>> bytes = new ArrayList<>();
      for (int token = 0; isToken(token); token++) {
        bytes.add(bytesOf(token));
      }
      return bytes;
    }

    BigInteger waysOf(List<Integer> word, List<List<Integer>> bytes) {
      BigInteger[] ways = new BigInteger[word.size() + 1];
      Arrays.fill(ways, BigInteger.ZERO);
      ways[0] = BigInteger.ONE;
      for (int place = 0; place < word.size(); place++) {
        for (List<Integer> b : bytes) {
          if (fits(word, place, b)) {
            ways[place + b.size()] = ways[place + b.size()].add(ways[place]);
          }
        }
      }
      return ways[word.size()];
    }

    int ways() {
      BigInteger all = BigInteger.ONE;
      List<List<Integer>> bytes = allBytes();
      for (List<Integer> word : wordRows()) {
        all = all.multiply(waysOf(word, bytes));
      }
      return all.min(BigInteger.valueOf(1000000)).intValue();
    }

    List<Integer> best() {
      List<Integer> all = new ArrayList<>();
      List<List<Integer>> bytes = allBytes();
      for (List<Integer> word : wordRows()) {
        boolean few = waysOf(word, bytes).compareTo(BigInteger.valueOf(300)) <= 0;
        all.addAll(few ? bestOfAll(word, bytes) : bestByPrefixes(word, bytes));
      }
      return all;
    }

    /** Looks at every row there is. */
    List<Integer> bestOfAll(List<Integer> word, List<List<Integer>> bytes) {
      List<List<Integer>> rows = new ArrayList<>();
      collect(word, 0, bytes, new ArrayList<>(), rows);
      List<Integer> best = rows.get(0);
      for (List<Integer> row : rows) {
        if (ahead(row, best)) {
          best = row;
        }
      }
      return best;
    }

    void collect(List<Integer> word, int place, List<List<Integer>> bytes, List<Integer> row,
        List<List<Integer>> rows) {
      if (place == word.size()) {
        rows.add(new ArrayList<>(row));
        return;
      }
      for (int token = 0; token < bytes.size(); token++) {
        if (fits(word, place, bytes.get(token))) {
          row.add(token);
          collect(word, place + bytes.get(token).size(), bytes, row, rows);
          row.remove(row.size() - 1);
        }
      }
    }

    /** For words with too many rows: the best row of each beginning of the word. */
    List<Integer> bestByPrefixes(List<Integer> word, List<List<Integer>> bytes) {
      List<List<Integer>> best = new ArrayList<>();
      best.add(new ArrayList<>());
      for (int end = 1; end <= word.size(); end++) {
        List<Integer> found = null;
        for (int token = 0; token < bytes.size(); token++) {
          int place = end - bytes.get(token).size();
          if (place >= 0 && fits(word, place, bytes.get(token))) {
            List<Integer> row = new ArrayList<>(best.get(place));
            row.add(token);
            if (found == null || ahead(row, found)) {
              found = row;
            }
          }
        }
        best.add(found);
      }
      return best.get(word.size());
    }
  }

  private static int wrong = 0;
  private static int calls = 0;

  private final long seed;
  private final Random random;
  private final String letters;
  private final PairTokens real = new PairTokens();
  private final Model model = new Model();

  private ModelTest(long seed) {
    this.seed = seed;
    random = new Random(seed);
    String[] alphabets = {"a", "ab", "ab ", "abc  ", "a ", "abcdefgh ", "\u0000\u00ff \u0080", " ",
      "abcdefghijklmnopqrst  "};
    letters = alphabets[random.nextInt(alphabets.length)];
  }

  private void due(String call, int got, int want) {
    calls++;
    if (got != want) {
      wrong++;
      System.out.println("seed " + seed + ": " + call + " answered " + got + ", due is " + want);
    }
  }

  private int wild() {
    int[] all = {Integer.MIN_VALUE, -101, -100, -2, -1, 0, 1, 2, 31, 32, 33, 100, 101, 119, 120, 121,
      255, 256, 257, 287, 288, 289, 511, 512, 65536, Integer.MAX_VALUE};
    return all[random.nextInt(all.length)];
  }

  private int index(int n) {
    return random.nextInt(12) == 0 ? wild() : random.nextInt(n + 2) - 1;
  }

  private int token() {
    int kind = random.nextInt(8);
    if (kind == 0) {
      return wild();
    }
    return kind < 3 ? letters.charAt(random.nextInt(letters.length()))
        : 256 + random.nextInt(model.learned.size() + 1);
  }

  private void octet() {
    int b = random.nextInt(40) == 0 ? wild() : letters.charAt(random.nextInt(letters.length()));
    int want = b < 0 || b > 255 ? -2 : model.text.size() == 120 ? -4 : model.text.size() + 1;
    if (want > 0) {
      model.text.add(b);
    }
    due("octet(" + b + ")", real.octet(b), want);
  }

  /** Steps alone seldom make long texts: some runs begin with one, up to more than there is room for. */
  private void begin() {
    int n = random.nextInt(125);
    for (int i = 0; i < n; i++) {
      octet();
    }
  }

  private void cut() {
    int had = model.text.size();
    int n = random.nextInt(3) == 0 ? index(had) : had - random.nextInt(4);
    boolean good = n >= 0 && n <= had;
    due("cut(" + n + ")", real.cut(n), good ? had : -2);
    if (good) {
      model.text.subList(n, had).clear();
    }
  }

  private void learn() {
    int n = random.nextInt(3) == 0 ? random.nextInt(33) : random.nextInt(5) == 0 ? wild() : 32;
    due("learn(" + n + ")", real.learn(n), model.learn(n));
  }

  private void askOfLearned() {
    int token = token();
    boolean learned = token >= 256 && model.isToken(token);
    int side = random.nextInt(5) == 0 ? wild() : random.nextInt(2);
    boolean goodSide = side == 0 || side == 1;
    due("pair(" + token + ", " + side + ")", real.pair(token, side),
        !learned ? -1 : !goodSide ? -2 : model.learned.get(token - 256)[side]);
    due("count(" + token + ")", real.count(token), learned ? model.counts.get(token - 256) : -1);
  }

  private void askOfToken() {
    int token = token();
    List<Integer> bytes = model.isToken(token) ? model.bytesOf(token) : new ArrayList<>();
    due("size(" + token + ")", real.size(token), model.isToken(token) ? bytes.size() : -1);
    int i = index(bytes.size());
    int got;
    try {
      got = real.decode(token, i);
    } catch (ArrayIndexOutOfBoundsException e) {
      got = THROWN;
    }
    boolean good = i >= 0 && i < bytes.size();
    due("decode(" + token + ", " + i + ")", got,
        !model.isToken(token) ? -1 : good ? bytes.get(i) : THROWN);
  }

  private void askOfText() {
    int i = index(model.text.size());
    boolean good = i >= 0 && i < model.text.size();
    due("byteAt(" + i + ")", real.byteAt(i), good ? model.text.get(i) : -1);
    due("words()", real.words(), model.wordRows().size());
  }

  private void askOfTold() {
    List<Integer> told = model.told();
    due("tokens()", real.tokens(), told.size());
    for (int times = 0; times < 4; times++) {
      int i = index(told.size());
      boolean good = i >= 0 && i < told.size();
      due("at(" + i + ")", real.at(i), good ? told.get(i) : -1);
      due("from(" + i + ")", real.from(i), good ? model.beginOf(told, i) : -1);
    }
  }

  private void setPoints() {
    int token = token();
    int points = random.nextInt(3) == 0 ? wild() : random.nextInt(7) - 3;
    boolean good = points >= -100 && points <= 100;
    int want = !model.isToken(token) ? -1 : good ? 1 : -2;
    if (want == 1) {
      model.points[token] = points;
    }
    due("points(" + token + ", " + points + ")", real.points(token, points), want);
  }

  private void askOfBest() {
    List<Integer> best = model.best();
    due("best()", real.best(), best.size());
    due("sum()", real.sum(), model.sumOf(best));
    due("ways()", real.ways(), model.ways());
    for (int i = -1; i <= best.size(); i++) {
      boolean good = i >= 0 && i < best.size();
      due("bestAt(" + i + ")", real.bestAt(i), good ? best.get(i) : -1);
    }
    int i = wild();
    if (i < 0 || i >= best.size()) {
      due("bestAt(" + i + ")", real.bestAt(i), -1);
    }
  }

  private void step() {
    int kind = random.nextInt(100);
    if (kind < 50) {
      octet();
    } else if (kind < 54) {
      cut();
    } else if (kind < 58) {
      learn();
    } else if (kind < 68) {
      askOfLearned();
    } else if (kind < 78) {
      askOfToken();
    } else if (kind < 82) {
      askOfText();
    } else if (kind < 86) {
      askOfTold();
    } else if (kind < 96) {
      setPoints();
    } else {
      askOfBest();
    }
  }

  public static void main(String[] args) {
    for (int seed = 1; seed <= RUNS && wrong < 50; seed++) {
      ModelTest run = new ModelTest(seed);
      int end = calls + CALLS;
      run.begin();
      while (calls < end) {
        run.step();
      }
    }
    System.out.println(calls + " answers, " + wrong + " of them not as due");
    if (wrong != 0) {
      System.exit(1);
    }
  }
}
