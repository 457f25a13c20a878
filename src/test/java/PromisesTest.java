/** The promises of the document, one method for each: ordinary inputs, edges and wrong inputs. */
public final class PromisesTest {
  private static final int[] WILD = {
    Integer.MIN_VALUE, Integer.MIN_VALUE + 1, -1000, -1, Integer.MAX_VALUE - 1, Integer.MAX_VALUE
  };
  /** What decoded() answers where decode throws: no byte and no refusal. */
  private static final int THROWN = -99;

  private static int promise = 0;
  private static int calls = 0;
  private static int wrong = 0;

  private static void due(String call, int got, int want) {
    calls++;
    if (got != want) {
      wrong++;
      System.out.println("promise " + promise + ": " + call + " answered " + got + ", due is " + want);
    }
  }

  private static PairTokens with(String text) {
    PairTokens x = new PairTokens();
    put(x, text);
    return x;
  }

  private static void put(PairTokens x, String text) {
    for (int i = 0; i < text.length(); i++) {
      x.octet(text.charAt(i));
    }
  }

  private static PairTokens learnedFrom(String text, int n, int learned) {
    PairTokens x = with(text);
    due("learn(" + n + ") from '" + text + "'", x.learn(n), learned);
    return x;
  }

  private static void retext(PairTokens x, String text) {
    x.cut(0);
    put(x, text);
  }

  private static void duePair(PairTokens x, int token, int first, int second, int count) {
    due("pair(" + token + ", 0)", x.pair(token, 0), first);
    due("pair(" + token + ", 1)", x.pair(token, 1), second);
    due("count(" + token + ")", x.count(token), count);
  }

  private static void dueTold(PairTokens x, int... row) {
    due("tokens()", x.tokens(), row.length);
    for (int i = 0; i < row.length; i++) {
      due("at(" + i + ")", x.at(i), row[i]);
    }
    due("at(" + row.length + ")", x.at(row.length), -1);
  }

  private static void dueBest(PairTokens x, int sum, int... row) {
    due("sum()", x.sum(), sum);
    due("best()", x.best(), row.length);
    for (int i = 0; i < row.length; i++) {
      due("bestAt(" + i + ")", x.bestAt(i), row[i]);
    }
    due("bestAt(" + row.length + ")", x.bestAt(row.length), -1);
  }

  private static int decoded(PairTokens x, int token, int i) {
    try {
      return x.decode(token, i);
    } catch (ArrayIndexOutOfBoundsException e) {
      // The machine's own exceptions tell the index so; the class must throw before it comes to that.
      String told = e.getMessage();
      return told != null && told.startsWith("Index ") ? THROWN - 1 : THROWN;
    }
  }

  private static String distinct(int from, int n) {
    StringBuilder s = new StringBuilder();
    for (int i = 0; i < n; i++) {
      s.append((char) (from + i));
    }
    return s.toString();
  }

  private static void newObject() {
    PairTokens other = learnedFrom("abab", 32, 1);
    other.points(97, 5);
    PairTokens x = new PairTokens();
    due("byteAt(0)", x.byteAt(0), -1);
    due("words()", x.words(), 0);
    due("pair(256, 0)", x.pair(256, 0), -1);
    due("count(256)", x.count(256), -1);
    due("size(256)", x.size(256), -1);
    due("decode(256, 0)", decoded(x, 256, 0), -1);
    due("from(0)", x.from(0), -1);
    dueTold(x);
    dueBest(x, 0);
    due("ways()", x.ways(), 1);
    due("points(256, 0)", x.points(256, 0), -1);
    due("learn(32)", x.learn(32), 0);
    due("cut(0)", x.cut(0), 0);
    due("octet(97)", x.octet(97), 1);
    due("sum()", x.sum(), -10);
    due("tokens() of another object", other.tokens(), 2);
  }

  private static void octet() {
    PairTokens x = new PairTokens();
    due("octet(0)", x.octet(0), 1);
    due("octet(255)", x.octet(255), 2);
    due("octet(256)", x.octet(256), -2);
    for (int b : WILD) {
      due("octet(" + b + ")", x.octet(b), -2);
    }
    due("octet(7)", x.octet(7), 3);
    due("byteAt(0)", x.byteAt(0), 0);
    due("byteAt(1)", x.byteAt(1), 255);
    due("byteAt(2)", x.byteAt(2), 7);
    for (int n = 4; n <= 120; n++) {
      due("octet(1)", x.octet(1), n);
    }
    due("octet(1) without room", x.octet(1), -4);
    due("octet(256) without room", x.octet(256), -2);
    due("octet(-1) without room", x.octet(-1), -2);
    due("byteAt(119)", x.byteAt(119), 1);
    due("byteAt(120)", x.byteAt(120), -1);
    due("tokens()", x.tokens(), 120);
  }

  private static void cut() {
    PairTokens x = with("abcd");
    due("cut(5)", x.cut(5), -2);
    for (int n : WILD) {
      due("cut(" + n + ")", x.cut(n), -2);
    }
    due("cut(4)", x.cut(4), 4);
    due("byteAt(3)", x.byteAt(3), 'd');
    due("cut(1)", x.cut(1), 4);
    due("byteAt(0)", x.byteAt(0), 'a');
    due("byteAt(1)", x.byteAt(1), -1);
    due("octet(101)", x.octet('e'), 2);
    due("byteAt(1)", x.byteAt(1), 'e');
    due("cut(0)", x.cut(0), 2);
    due("cut(0)", x.cut(0), 0);
    due("cut(1)", x.cut(1), -2);
    put(x, distinct(40, 120));
    due("octet(1)", x.octet(1), -4);
    due("cut(119)", x.cut(119), 120);
    due("octet(1)", x.octet(1), 120);
  }

  private static void cutKeepsWhatWasLearned() {
    PairTokens x = learnedFrom("abab", 32, 1);
    x.points(256, 50);
    x.cut(0);
    duePair(x, 256, 'a', 'b', 2);
    due("decode(256, 1)", decoded(x, 256, 1), 'b');
    put(x, "cab");
    dueTold(x, 'c', 256);
    dueBest(x, 40, 'c', 256);
  }

  private static void byteAt() {
    PairTokens x = with("a z");
    due("byteAt(0)", x.byteAt(0), 97);
    due("byteAt(1)", x.byteAt(1), 32);
    due("byteAt(2)", x.byteAt(2), 122);
    due("byteAt(3)", x.byteAt(3), -1);
    for (int i : WILD) {
      due("byteAt(" + i + ")", x.byteAt(i), -1);
    }
  }

  private static void words() {
    due("words() of one byte", with("a").words(), 1);
    due("words() of one space", with(" ").words(), 1);
    due("words() of spaces", with("   ").words(), 1);
    due("words() of ' a'", with(" a").words(), 1);
    due("words() of 'a '", with("a ").words(), 2);
    due("words() of 'a  b'", with("a  b").words(), 2);
    due("words() of 'a b c'", with("a b c").words(), 3);
    due("words() of '  a b  '", with("  a b  ").words(), 3);
    due("words() with other white space", with("a\tb\nc\u00a0d").words(), 1);
    PairTokens x = with("a b");
    x.cut(2);
    due("words() of 'a '", x.words(), 2);
    x.cut(1);
    due("words() of 'a'", x.words(), 1);
  }

  private static void learnBounds() {
    PairTokens x = learnedFrom("abab cdcd", 32, 2);
    x.points(256, 77);
    due("learn(33)", x.learn(33), -2);
    for (int n : WILD) {
      due("learn(" + n + ")", x.learn(n), -2);
    }
    duePair(x, 257, 'c', 'd', 2);
    due("sum()", x.sum(), 77 + 77 - 10 + 2 + 2);
    due("learn(1)", x.learn(1), 1);
    due("size(257)", x.size(257), -1);
    due("learn(2)", x.learn(2), 2);
    due("learn(0)", x.learn(0), 0);
    due("size(256)", x.size(256), -1);
    learnedFrom(distinct(60, 40) + distinct(60, 40), 31, 31);
    PairTokens full = learnedFrom(distinct(60, 40) + distinct(60, 40), 32, 32);
    // Twenty pairs of bytes, ten of these tokens, then two more of four parts each.
    due("size(287)", full.size(287), 8);
    due("size(288)", full.size(288), -1);
  }

  private static void learnOrder() {
    duePair(learnedFrom("xyxyabababxy", 1, 1), 256, 'a', 'b', 3);
    duePair(learnedFrom("cdcdcd bebe afaf", 1, 1), 256, 'c', 'd', 3);
    duePair(learnedFrom("zbzb ycyc", 1, 1), 256, 'y', 'c', 2);
    duePair(learnedFrom("az1az ab2ab", 1, 1), 256, 'a', 'b', 2);
    duePair(learnedFrom("\u00ffz1\u00ffz az2az", 1, 1), 256, 'a', 'z', 2);
    // A pair of bytes and a pair with a learned token count alike: the byte is the lesser one.
    PairTokens x = learnedFrom("bcbcxbcx ydyd", 32, 3);
    duePair(x, 256, 'b', 'c', 3);
    duePair(x, 257, 'y', 'd', 2);
    duePair(x, 258, 256, 'x', 2);
    // Alike but for the second token, which is a byte once and a learned one once.
    PairTokens y = learnedFrom("bcbcbc 1abc2abc 3az4az", 3, 3);
    duePair(y, 256, 'b', 'c', 5);
    duePair(y, 257, 'a', 'z', 2);
    duePair(y, 258, 'a', 256, 2);
  }

  private static void learnInWords() {
    learnedFrom("ab", 32, 0);
    learnedFrom("abcdefgh", 32, 0);
    learnedFrom("a a", 32, 0);
    // 'a' and the space behind it are never side by side in a word.
    PairTokens x = learnedFrom("a a a a", 32, 1);
    duePair(x, 256, ' ', 'a', 3);
    PairTokens y = learnedFrom("    ", 32, 1);
    duePair(y, 256, ' ', ' ', 3);
    PairTokens z = learnedFrom("aaa", 32, 1);
    duePair(z, 256, 'a', 'a', 2);
    PairTokens odd = learnedFrom("aaaaaaa", 32, 2);
    duePair(odd, 256, 'a', 'a', 6);
    duePair(odd, 257, 256, 256, 2);
  }

  private static void learnFromTheTextAlone() {
    PairTokens x = learnedFrom("abab", 32, 1);
    retext(x, "cdcd");
    due("learn(32)", x.learn(32), 1);
    duePair(x, 256, 'c', 'd', 2);
    due("decode(256, 0)", decoded(x, 256, 0), 'c');
    x.cut(0);
    due("learn(32) from nothing", x.learn(32), 0);
    due("size(256)", x.size(256), -1);
  }

  private static void pair() {
    PairTokens x = learnedFrom("abcabcabc", 2, 2);
    duePair(x, 256, 'a', 'b', 3);
    duePair(x, 257, 256, 'c', 3);
    due("pair(256, 2)", x.pair(256, 2), -2);
    for (int side : WILD) {
      due("pair(257, " + side + ")", x.pair(257, side), -2);
      due("pair(97, " + side + ")", x.pair(97, side), -1);
      due("pair(258, " + side + ")", x.pair(258, side), -1);
    }
    due("pair(0, 0)", x.pair(0, 0), -1);
    due("pair(255, 1)", x.pair(255, 1), -1);
    for (int token : WILD) {
      due("pair(" + token + ", 0)", x.pair(token, 0), -1);
      due("pair(" + token + ", 2)", x.pair(token, 2), -1);
    }
  }

  private static void count() {
    PairTokens x = learnedFrom("aaaaaa ab ab ab", 32, 4);
    due("count(256)", x.count(256), 5);
    due("count(257)", x.count(257), 3);
    due("count(258)", x.count(258), 3);
    due("count(259)", x.count(259), 2);
    due("count(260)", x.count(260), -1);
    due("count(0)", x.count(0), -1);
    due("count(255)", x.count(255), -1);
    for (int token : WILD) {
      due("count(" + token + ")", x.count(token), -1);
    }
    retext(x, "zz");
    due("count(256) with another text", x.count(256), 5);
  }

  private static void size() {
    PairTokens x = learnedFrom("abcdeabcdeabcde", 4, 4);
    due("size(0)", x.size(0), 1);
    due("size(255)", x.size(255), 1);
    due("size(256)", x.size(256), 2);
    due("size(257)", x.size(257), 2);
    due("size(258)", x.size(258), 4);
    due("size(259)", x.size(259), 5);
    due("size(260)", x.size(260), -1);
    for (int token : WILD) {
      due("size(" + token + ")", x.size(token), -1);
    }
  }

  private static void decode() {
    PairTokens x = learnedFrom("xabcabc ababcab", 32, 2);
    due("decode(0, 0)", decoded(x, 0, 0), 0);
    due("decode(255, 0)", decoded(x, 255, 0), 255);
    due("decode(255, 1)", decoded(x, 255, 1), THROWN);
    due("decode(256, 0)", decoded(x, 256, 0), 'a');
    due("decode(256, 1)", decoded(x, 256, 1), 'b');
    due("decode(256, 2)", decoded(x, 256, 2), THROWN);
    due("decode(257, 0)", decoded(x, 257, 0), 'a');
    due("decode(257, 1)", decoded(x, 257, 1), 'b');
    due("decode(257, 2)", decoded(x, 257, 2), 'c');
    due("decode(257, 3)", decoded(x, 257, 3), THROWN);
    for (int i : WILD) {
      due("decode(97, " + i + ")", decoded(x, 97, i), THROWN);
      due("decode(257, " + i + ")", decoded(x, 257, i), THROWN);
      due("decode(258, " + i + ")", decoded(x, 258, i), -1);
    }
    due("decode(258, 0)", decoded(x, 258, 0), -1);
    for (int token : WILD) {
      due("decode(" + token + ", 0)", decoded(x, token, 0), -1);
      due("decode(" + token + ", -1)", decoded(x, token, -1), -1);
    }
    retext(x, "zzzzzzzz");
    due("decode(257, 2) with another text", decoded(x, 257, 2), 'c');
    due("tokens() after a throw", x.tokens(), 8);
  }

  private static void tokens() {
    PairTokens x = learnedFrom("bcbcbc abab", 2, 2);
    duePair(x, 256, 'b', 'c', 3);
    duePair(x, 257, 'a', 'b', 2);
    // The pair that was learned first goes first, though it stands further right.
    retext(x, "abc");
    dueTold(x, 'a', 256);
    retext(x, "abcab ab");
    dueTold(x, 'a', 256, 257, ' ', 257);
    x.learn(0);
    due("tokens() with nothing learned", x.tokens(), 8);
    x.cut(0);
    due("tokens() without bytes", x.tokens(), 0);
  }

  private static void at() {
    PairTokens x = learnedFrom("aaaaaaa", 32, 2);
    dueTold(x, 257, 256, 'a');
    // Of overlapping places the first one.
    retext(x, "aaa baaab");
    dueTold(x, 256, 'a', ' ', 'b', 256, 'a', 'b');
    for (int i : WILD) {
      due("at(" + i + ")", x.at(i), -1);
    }
    due("learn(1)", learnAgain(x, "aaaaaaa", 1), 1);
    dueTold(x, 256, 256, 256, 'a');
    x.points(256, -100);
    dueTold(x, 256, 256, 256, 'a');
  }

  private static int learnAgain(PairTokens x, String text, int n) {
    retext(x, text);
    return x.learn(n);
  }

  private static void from() {
    PairTokens x = learnedFrom("aaaaaaa", 32, 2);
    retext(x, "baaaaaa a aa");
    dueTold(x, 'b', 257, 256, ' ', 'a', ' ', 256);
    int[] starts = {0, 1, 5, 7, 8, 9, 10};
    for (int i = 0; i < starts.length; i++) {
      due("from(" + i + ")", x.from(i), starts[i]);
    }
    due("from(7)", x.from(7), -1);
    for (int i : WILD) {
      due("from(" + i + ")", x.from(i), -1);
    }
  }

  private static void points() {
    PairTokens x = learnedFrom("abab", 32, 1);
    due("sum()", x.sum(), 4);
    due("points(256, 100)", x.points(256, 100), 1);
    due("sum()", x.sum(), 200);
    due("points(256, 101)", x.points(256, 101), -2);
    due("points(256, -101)", x.points(256, -101), -2);
    due("points(257, 101)", x.points(257, 101), -1);
    due("points(257, 0)", x.points(257, 0), -1);
    for (int wild : WILD) {
      due("points(" + wild + ", 0)", x.points(wild, 0), -1);
      due("points(" + wild + ", 101)", x.points(wild, 101), -1);
      due("points(97, " + wild + ")", x.points(97, wild), wild == -1 ? 1 : -2);
    }
    due("sum()", x.sum(), 200);
    due("points(256, -100)", x.points(256, -100), 1);
    due("points(97, 3)", x.points(97, 3), 1);
    due("points(0, 3)", x.points(0, 3), 1);
    due("points(255, 3)", x.points(255, 3), 1);
    due("sum()", x.sum(), 3 - 10 + 3 - 10);
    // Learned tokens get their points anew, bytes keep theirs.
    due("learn(32)", x.learn(32), 1);
    due("sum()", x.sum(), 4);
    due("learn(0)", x.learn(0), 0);
    due("sum()", x.sum(), -14);
  }

  private static void best() {
    PairTokens x = learnedFrom("abab", 32, 1);
    due("best()", x.best(), 2);
    x.points(256, -20);
    due("best() with as many points, so with fewer tokens", x.best(), 2);
    x.points(256, -21);
    due("best()", x.best(), 4);
    x.cut(3);
    due("best()", x.best(), 3);
    x.points(256, 0);
    due("best()", x.best(), 2);
    x.cut(0);
    due("best() without bytes", x.best(), 0);
  }

  private static void bestAt() {
    PairTokens x = learnedFrom("bcbcbc abab", 2, 2);
    retext(x, "abc");
    // Both choices have -8 points and two tokens: 'a' is the lesser first one.
    dueBest(x, -8, 'a', 256);
    x.points(257, 3);
    dueBest(x, -7, 257, 'c');
    retext(x, "abc abc");
    dueBest(x, -24, 257, 'c', ' ', 257, 'c');
    for (int i : WILD) {
      due("bestAt(" + i + ")", x.bestAt(i), -1);
    }
  }

  private static void bestOfSeveral() {
    PairTokens y = learnedFrom("aaaaaa aaaaaaa", 32, 3);
    duePair(y, 256, 'a', 'a', 11);
    duePair(y, 257, 256, 256, 4);
    duePair(y, 258, 257, 256, 2);
    retext(y, "aaaaaaaaaa");
    dueBest(y, 10, 257, 258);
    y.points(258, 7);
    dueBest(y, 11, 257, 258);
    y.points(257, 5);
    // As many points as 256, 257, 257 have, with fewer tokens.
    dueBest(y, 12, 257, 258);
    y.points(257, 6);
    dueBest(y, 14, 256, 257, 257);
  }

  private static void sum() {
    due("sum() without bytes", new PairTokens().sum(), 0);
    due("sum() of 'ab cd'", with("ab cd").sum(), -50);
    PairTokens x = new PairTokens();
    for (int i = 0; i < 120; i++) {
      x.octet(65);
    }
    x.points(65, -100);
    due("sum()", x.sum(), -12000);
    x.points(65, 100);
    due("sum()", x.sum(), 12000);
    x.points(65, 0);
    due("sum()", x.sum(), 0);
    PairTokens y = learnedFrom("aaaaaaa", 32, 2);
    dueBest(y, -4, 'a', 256, 257);
    y.points(97, 1);
    dueBest(y, 7, 'a', 256, 257);
  }

  private static void ways() {
    due("ways() without bytes", new PairTokens().ways(), 1);
    due("ways() with nothing learned", with("abc abc").ways(), 1);
    PairTokens x = learnedFrom("abab abc", 32, 1);
    due("ways()", x.ways(), 8);
    retext(x, "abab");
    due("ways()", x.ways(), 4);
    retext(x, "ab ab ab ab ab ab ab ab ab ab");
    due("ways()", x.ways(), 1024);
    put(x, " ab ab ab ab ab ab ab ab ab");
    due("ways()", x.ways(), 524288);
    put(x, " ab");
    due("ways()", x.ways(), 1000000);
    put(x, " ab ab ab ab ab ab ab ab ab ab ab ab ab ab ab ab ab ab ab ab");
    due("ways()", x.ways(), 1000000);
    PairTokens y = learnedFrom("aaaaaaa", 1, 1);
    due("ways()", y.ways(), 21);
    due("learn(2)", y.learn(2), 2);
    due("ways()", y.ways(), 31);
    y.points(256, -100);
    due("ways() with other points", y.ways(), 31);
    for (int n = 8; n <= 120; n++) {
      y.octet('a');
    }
    due("ways()", y.ways(), 1000000);
  }

  public static void main(String[] args) {
    promise = 1;
    newObject();
    promise = 2;
    octet();
    promise = 3;
    cut();
    cutKeepsWhatWasLearned();
    promise = 4;
    byteAt();
    promise = 5;
    words();
    promise = 6;
    learnBounds();
    learnOrder();
    learnInWords();
    learnFromTheTextAlone();
    promise = 7;
    pair();
    promise = 8;
    count();
    promise = 9;
    size();
    promise = 10;
    decode();
    promise = 11;
    tokens();
    promise = 12;
    at();
    promise = 13;
    from();
    promise = 14;
    points();
    promise = 15;
    best();
    promise = 16;
    bestAt();
    bestOfSeveral();
    promise = 17;
    sum();
    promise = 18;
    ways();
    System.out.println(calls + " answers, " + wrong + " of them not as due");
    if (wrong != 0) {
      System.exit(1);
    }
  }
}
