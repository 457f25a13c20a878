import java.util.function.Consumer;

/**
 * The sentences of the document that name a boundary, each with a test of its own. The sentence
 * stands, word for word, ahead of its test. What refused calls leave as it was is looked at in
 * RefusalsTest.
 */
public final class EdgesTest {
  /** Far outside of everything, and near to where a sum or a difference of ints wraps around. */
  private static final int[] FAR = {
    Integer.MIN_VALUE, Integer.MIN_VALUE + 1, Integer.MIN_VALUE + 97, Integer.MIN_VALUE + 255,
    Integer.MIN_VALUE + 256, -65536, -65439, -512, -256, -159, -101, -2, -1, 512, 65536, 65536 + 97,
    65536 + 256, 1 << 24, Integer.MAX_VALUE - 255, Integer.MAX_VALUE - 1, Integer.MAX_VALUE
  };
  private static final int THROWN = -99;
  private static final int THROWN_BY_THE_MACHINE = -98;
  private static final int CALLS_OF_AN_OBJECT = 512;

  private static String sentence = "";
  private static int answers = 0;
  private static int sentences = 0;
  private static int wrong = 0;

  /** An object whose answers are compared, and counted: the document tells of 512 calls alone. */
  private static final class Talk {
    private final PairTokens x = new PairTokens();
    private int calls = 0;

    private void due(String call, int got, int want) {
      answers++;
      calls++;
      if (got != want) {
        report(call + " answered " + got + ", due is " + want);
      }
      if (calls == CALLS_OF_AN_OBJECT + 1) {
        report(call + " is a call more than the document tells of");
      }
    }

    void octet(int b, int want) {
      due("octet(" + b + ")", x.octet(b), want);
    }

    void cut(int n, int want) {
      due("cut(" + n + ")", x.cut(n), want);
    }

    void byteAt(int i, int want) {
      due("byteAt(" + i + ")", x.byteAt(i), want);
    }

    void words(int want) {
      due("words()", x.words(), want);
    }

    void learn(int n, int want) {
      due("learn(" + n + ")", x.learn(n), want);
    }

    void pair(int token, int side, int want) {
      due("pair(" + token + ", " + side + ")", x.pair(token, side), want);
    }

    void count(int token, int want) {
      due("count(" + token + ")", x.count(token), want);
    }

    void size(int token, int want) {
      due("size(" + token + ")", x.size(token), want);
    }

    void decode(int token, int i, int want) {
      due("decode(" + token + ", " + i + ")", decoded(token, i), want);
    }

    private int decoded(int token, int i) {
      try {
        return x.decode(token, i);
      } catch (ArrayIndexOutOfBoundsException e) {
        // The machine's own ones begin so.
        boolean machine = e.getMessage() != null && e.getMessage().startsWith("Index ");
        return machine ? THROWN_BY_THE_MACHINE : THROWN;
      }
    }

    void tokens(int want) {
      due("tokens()", x.tokens(), want);
    }

    void at(int i, int want) {
      due("at(" + i + ")", x.at(i), want);
    }

    void from(int i, int want) {
      due("from(" + i + ")", x.from(i), want);
    }

    void points(int token, int points, int want) {
      due("points(" + token + ", " + points + ")", x.points(token, points), want);
    }

    void best(int want) {
      due("best()", x.best(), want);
    }

    void bestAt(int i, int want) {
      due("bestAt(" + i + ")", x.bestAt(i), want);
    }

    void sum(int want) {
      due("sum()", x.sum(), want);
    }

    void ways(int want) {
      due("ways()", x.ways(), want);
    }

    /** Bytes more, behind those that are there. */
    void put(int had, String bytes) {
      for (int i = 0; i < bytes.length(); i++) {
        octet(bytes.charAt(i), had + i + 1);
      }
    }

    /** Another text instead of the one with so many bytes. */
    void retext(int had, String text) {
      cut(0, had);
      put(0, text);
    }

    void learned(int token, int first, int second, int count) {
      pair(token, 0, first);
      pair(token, 1, second);
      count(token, count);
    }

    void told(int... row) {
      tokens(row.length);
      for (int i = 0; i < row.length; i++) {
        at(i, row[i]);
      }
      at(row.length, -1);
    }

    void best(int sum, int[] row) {
      sum(sum);
      best(row.length);
      for (int i = 0; i < row.length; i++) {
        bestAt(i, row[i]);
      }
      bestAt(row.length, -1);
    }

    void noSuchToken(int token) {
      pair(token, 0, -1);
      pair(token, 1, -1);
      count(token, -1);
      size(token, -1);
      decode(token, 0, -1);
      points(token, 0, -1);
    }
  }

  private static void report(String what) {
    wrong++;
    System.out.println("\"" + sentence + "\": " + what);
  }

  private static void sentence(String words, Runnable test) {
    sentence = words;
    sentences++;
    int before = answers;
    try {
      test.run();
    } catch (RuntimeException e) {
      report("a call threw " + e);
    }
    if (answers == before) {
      report("nothing was asked");
    }
  }

  private static void fresh(Consumer<Talk> test) {
    test.accept(new Talk());
  }

  private static Talk with(String text) {
    Talk x = new Talk();
    x.put(0, text);
    return x;
  }

  private static Talk learnedFrom(String text, int n, int learned) {
    Talk x = with(text);
    x.learn(n, learned);
    return x;
  }

  private static int[] row(int... tokens) {
    return tokens;
  }

  private static String bytes(int... codes) {
    StringBuilder s = new StringBuilder();
    for (int code : codes) {
      s.append((char) code);
    }
    return s.toString();
  }

  /** So many different bytes, from 100 on, twice: a new token is due for each but the first. */
  private static String twice(int n) {
    StringBuilder s = new StringBuilder();
    for (int i = 0; i < n; i++) {
      s.append((char) (100 + i));
    }
    return s.toString() + s;
  }

  /** 120 bytes of which 80 become one token, which no text can make larger. */
  private static String threeTimesForty() {
    return ("a".repeat(8) + "b".repeat(32)).repeat(3);
  }

  // ---- What it is

  private static void calls() {
    sentence("An object is used for at most 512 calls after it has been made", () -> {
      Talk x = with("a".repeat(120));
      for (int calls = 120; calls < 508; calls += 4) {
        x.learn(32, 6);
        x.tokens(4);
        x.sum(120);
        x.ways(1000000);
      }
      x.learn(0, 0);
      x.sum(-1200);
      x.octet(97, -4);
      x.cut(0, 120);
      Talk y = new Talk();
      for (int calls = 0; calls < 512; calls += 2) {
        y.octet(255, 1);
        y.cut(0, 1);
      }
    });
  }

  // ---- Terms

  private static void theText() {
    sentence("THE TEXT has up to 120 bytes (0 .. 255).", () -> {
      Talk x = new Talk();
      for (int i = 0; i < 120; i++) {
        x.octet(i, i + 1);
      }
      x.octet(120, -4);
      for (int i = 0; i < 120; i++) {
        x.byteAt(i, i);
      }
      x.byteAt(120, -1);
      x.tokens(120);
      x.best(120);
      Talk y = new Talk();
      for (int i = 0; i < 120; i++) {
        y.octet(255 - i, i + 1);
      }
      y.octet(0, -4);
      for (int i = 0; i < 120; i++) {
        y.byteAt(i, 255 - i);
      }
      fresh(z -> {
        z.octet(-1, -2);
        z.octet(0, 1);
        z.octet(255, 2);
        z.octet(256, -2);
        z.byteAt(0, 0);
        z.byteAt(1, 255);
        z.byteAt(2, -1);
      });
    });
  }

  private static void wordsOfTheText() {
    sentence("WORDS: one begins at its first byte", () -> {
      for (int b = 0; b < 256; b++) {
        with(bytes(b)).words(1);
      }
      with(" ").words(1);
      with(" a").words(1);
      with("    a").words(1);
    });
    sentence("and at each byte 32 that stands right behind another byte than 32", () -> {
      for (int b = 0; b < 256; b++) {
        with(bytes(b, 32)).words(b == 32 ? 1 : 2);
        with(bytes('a', b)).words(b == 32 ? 2 : 1);
        with(bytes(32, b)).words(1);
      }
      with("a ").words(2);
      with("a  ").words(2);
      with("a  b").words(2);
      with("a  b ").words(3);
      with("  a  b").words(2);
      with("a ".repeat(60)).words(61);
      with(" a".repeat(60)).words(60);
      with(" ".repeat(120)).words(1);
      with("a".repeat(119) + " ").words(2);
    });
  }

  private static void theTokens() {
    sentence("TOKENS 0 .. 255 are bytes", () -> {
      Talk x = new Talk();
      for (int b = 0; b < 256; b++) {
        x.size(b, 1);
      }
      x.size(-1, -1);
      x.size(256, -1);
      Talk y = new Talk();
      for (int b = 0; b < 256; b++) {
        y.decode(b, 0, b);
      }
      y.decode(-1, 0, -1);
      y.decode(256, 0, -1);
      Talk z = new Talk();
      z.pair(0, 0, -1);
      z.pair(255, 1, -1);
      z.count(0, -1);
      z.count(255, -1);
    });
    sentence("further ones, from 256 on, are LEARNED (32 at most)", () -> {
      Talk last = learnedFrom(twice(32), 32, 31);
      last.size(286, 32);
      last.noSuchToken(287);
      Talk full = learnedFrom(twice(33), 32, 32);
      full.size(287, 33);
      full.learned(287, 286, 132, 2);
      full.noSuchToken(288);
      full.noSuchToken(289);
      Talk more = learnedFrom(twice(34), 32, 32);
      more.size(287, 32);
      more.noSuchToken(288);
      // The pair 287, 272 stands there twice, but there is no token left for it.
      more.told(287, 272, 287, 272);
      more.learn(33, -2);
      more.told(287, 272, 287, 272);
    });
    sentence("each is a PAIR of two TOKENS that were there before it", () -> {
      Talk x = learnedFrom(twice(33), 32, 32);
      for (int i = 0; i < 16; i++) {
        x.learned(256 + i, 100 + 2 * i, 101 + 2 * i, 2);
      }
      for (int i = 0; i < 15; i++) {
        x.learned(272 + i, 256 + 2 * i, 257 + 2 * i, 2);
      }
      x.learned(287, 286, 132, 2);
    });
    sentence("its bytes are those of the first one, then those of the second one", () -> {
      Talk x = learnedFrom(twice(33), 32, 32);
      for (int i = 0; i < 33; i++) {
        x.decode(287, i, 100 + i);
      }
      x.decode(287, 33, THROWN);
      for (int i = 0; i < 16; i++) {
        x.decode(284, i, 100 + i);
        x.decode(285, i, 116 + i);
      }
      Talk y = learnedFrom("cabcab", 32, 2);
      y.learned(256, 'a', 'b', 2);
      y.learned(257, 'c', 256, 2);
      y.decode(257, 0, 'c');
      y.decode(257, 1, 'a');
      y.decode(257, 2, 'b');
      y.decode(257, 3, THROWN);
    });
  }

  private static void toLearn() {
    sentence("TO LEARN from THE TEXT (what was LEARNED before is gone)", () -> {
      Talk x = learnedFrom("ababcdcd", 32, 2);
      x.learn(1, 1);
      x.noSuchToken(257);
      x.told(256, 256, 'c', 'd', 'c', 'd');
      x.retext(8, "xyxy");
      x.learn(32, 1);
      x.learned(256, 'x', 'y', 2);
      x.decode(256, 0, 'x');
      x.retext(4, "abab");
      x.told('a', 'b', 'a', 'b');
      x.ways(1);
      x.cut(1, 4);
      x.learn(32, 0);
      x.noSuchToken(256);
      Talk y = learnedFrom("abab", 32, 1);
      y.learn(0, 0);
      y.noSuchToken(256);
      y.told('a', 'b', 'a', 'b');
      y.best(-40, row('a', 'b', 'a', 'b'));
    });
    sentence("a PAIR counts for each place of a WORD where its two TOKENS stand side by side", () -> {
      Talk x = learnedFrom("ab ab", 32, 1);
      x.learned(256, 'a', 'b', 2);
      // The byte ahead of a word and the word's first one are not side by side in a word.
      Talk y = learnedFrom("a b a c a d", 32, 1);
      y.learned(256, ' ', 'a', 2);
      Talk z = learnedFrom("a a a a", 32, 1);
      z.learned(256, ' ', 'a', 3);
      learnedFrom("a a", 32, 0);
      Talk first = learnedFrom("bb cbb", 32, 1);
      first.learned(256, 'b', 'b', 2);
      Talk last = learnedFrom("xbc bc", 32, 1);
      last.learned(256, 'b', 'c', 2);
      learnedFrom("", 32, 0);
      learnedFrom("a", 32, 0);
      learnedFrom(" ", 32, 0);
    });
    sentence("(also for places that overlap)", () -> {
      learnedFrom("aa", 32, 0);
      Talk x = learnedFrom("aaa", 32, 1);
      x.learned(256, 'a', 'a', 2);
      Talk y = learnedFrom("    ", 32, 1);
      y.learned(256, ' ', ' ', 3);
      Talk z = learnedFrom("a".repeat(120), 32, 6);
      int[] counts = {119, 59, 29, 14, 6, 2};
      for (int i = 0; i < counts.length; i++) {
        z.count(256 + i, counts[i]);
        z.size(256 + i, 2 << i);
      }
      z.told(261, 260, 259, 258);
    });
    sentence("The PAIR that counts most, if that is 2 or more", () -> {
      learnedFrom("ab", 32, 0);
      learnedFrom("abcdefgh ijkl mn", 32, 0);
      learnedFrom("abab", 32, 1).learned(256, 'a', 'b', 2);
      learnedFrom("abcab", 32, 1).learned(256, 'a', 'b', 2);
      learnedFrom("ababyzyzyz", 1, 1).learned(256, 'y', 'z', 3);
      learnedFrom("yzyzababab", 1, 1).learned(256, 'a', 'b', 3);
      Talk x = new Talk();
      for (int b = 255; b > 135; b--) {
        x.octet(b, 256 - b);
      }
      x.learn(32, 0);
      x.cut(118, 120);
      x.octet(255, 119);
      x.octet(254, 120);
      x.learn(32, 1);
      x.learned(256, 255, 254, 2);
    });
    sentence("of several the one with the lesser first, then the lesser second TOKEN", () -> {
      Talk x = learnedFrom(bytes(0, 255, 7, 0, 255, 8, 255, 0, 9, 255, 0), 32, 2);
      x.learned(256, 0, 255, 2);
      x.learned(257, 255, 0, 2);
      Talk y = learnedFrom(bytes(255, 0, 7, 255, 0, 8, 0, 255, 9, 0, 255), 32, 2);
      y.learned(256, 0, 255, 2);
      y.learned(257, 255, 0, 2);
      Talk z = learnedFrom(bytes(5, 255, 1, 5, 255, 2, 5, 0, 3, 5, 0), 32, 2);
      z.learned(256, 5, 0, 2);
      z.learned(257, 5, 255, 2);
      // 5, 256 and 6, 0 are one number to who takes tokens for digits of 256.
      Talk digits = learnedFrom(bytes(7, 8, 7, 8, 1, 5, 7, 8, 2, 5, 7, 8, 3, 6, 0, 4, 6, 0), 32, 3);
      digits.learned(256, 7, 8, 4);
      digits.learned(257, 5, 256, 2);
      digits.learned(258, 6, 0, 2);
      Talk learnedLast = learnedFrom("bcbcxbcx ydyd", 32, 3);
      learnedLast.learned(256, 'b', 'c', 3);
      learnedLast.learned(257, 'y', 'd', 2);
      learnedLast.learned(258, 256, 'x', 2);
    });
    sentence("takes the place of its two in all WORDS, in each from the left on", () -> {
      Talk x = learnedFrom("xaaay xaaay", 32, 4);
      x.learned(256, 'a', 'a', 4);
      x.learned(257, 'a', 'y', 2);
      x.learned(258, 'x', 256, 2);
      x.learned(259, 258, 257, 2);
      x.told(259, ' ', 259);
      Talk y = learnedFrom("abx cabx dabx", 2, 2);
      y.learned(256, 'a', 'b', 3);
      y.learned(257, 256, 'x', 3);
    });
  }

  private static void toTell() {
    sentence("TO TELL THE TEXT IN TOKENS: each WORD is a row of TOKENS, at first its bytes.", () -> {
      with("a b").told('a', ' ', 'b');
      with(bytes(0, 255)).told(0, 255);
      new Talk().told();
      Talk x = learnedFrom("abab", 32, 1);
      x.retext(4, "ba");
      x.told('b', 'a');
      x.cut(0, 2);
      x.told();
    });
    sentence("the one with the PAIR that was LEARNED first", () -> {
      Talk x = learnedFrom("bcbcbc abab", 2, 2);
      x.learned(256, 'b', 'c', 3);
      x.learned(257, 'a', 'b', 2);
      x.retext(11, "abc");
      x.told('a', 256);
      x.retext(3, "ab abc bc");
      x.told(257, ' ', 'a', 256, ' ', 256);
    });
    sentence("of several the first place", () -> {
      Talk x = learnedFrom("aaa", 32, 1);
      x.told(256, 'a');
      x.from(1, 2);
      x.put(3, "aa");
      x.told(256, 256, 'a');
      x.put(5, " aaa");
      x.told(256, 256, 'a', ' ', 256, 'a');
    });
    sentence("the two become its TOKEN; till there is none", () -> {
      Talk x = learnedFrom(twice(33), 32, 32);
      x.told(287, 287);
      x.cut(33, 66);
      x.told(287);
      x.cut(32, 33);
      x.told(286);
      x.cut(31, 32);
      x.told(284, 282, 278, 270, 130);
      x.cut(1, 31);
      x.told(100);
    });
  }

  private static void thePoints() {
    sentence("POINTS of TOKENS are -100 .. 100", () -> {
      Talk x = learnedFrom("abab", 32, 1);
      for (int token : new int[] {0, 97, 255, 256}) {
        x.points(token, -100, 1);
        x.points(token, 100, 1);
        x.points(token, 0, 1);
        x.points(token, 101, -2);
        x.points(token, -101, -2);
      }
      x.sum(0);
      x.points(256, 100, 1);
      x.sum(200);
      x.points(256, 101, -2);
      x.sum(200);
      x.points(256, -100, 1);
      x.points('a', -100, 1);
      x.points('b', -100, 1);
      x.sum(-200);
      x.points(256, -101, -2);
      x.points('a', -101, -2);
      x.sum(-200);
    });
    sentence("bytes have -10 at first", () -> {
      for (int b = 0; b < 256; b++) {
        with(bytes(b)).sum(-10);
      }
      with("a".repeat(120)).sum(-1200);
    });
    sentence("LEARNED ones as many as they have bytes, when they are LEARNED", () -> {
      learnedFrom("abab", 32, 1).sum(4);
      learnedFrom(twice(33), 32, 32).sum(66);
      Talk large = learnedFrom(threeTimesForty(), 32, 10);
      large.size(265, 80);
      large.cut(80, 120);
      large.best(80, row(265));
      Talk x = learnedFrom("ababab", 1, 1);
      x.points(256, -100, 1);
      x.points('a', 1, 1);
      x.sum(3 * -9);
      // Learned again it has them anew; the byte keeps what it was given.
      x.learn(32, 2);
      x.best(6, row(256, 257));
      x.points(257, 50, 1);
      x.learn(1, 1);
      x.sum(6);
      x.learn(2, 2);
      x.sum(6);
      x.learn(0, 0);
      x.sum(3 * -9);
      // Neither a cut nor further bytes give points.
      Talk y = learnedFrom("abab", 32, 1);
      y.points(256, 9, 1);
      y.retext(4, "ab");
      y.sum(9);
    });
  }

  private static void theBest() {
    sentence("A CHOICE: for each WORD a row of TOKENS whose bytes, one behind the other, are the WORD",
        () -> {
          Talk x = learnedFrom("ab ab", 32, 1);
          x.ways(4);
          x.best(-6, row(256, ' ', 256));
          x.points(256, 100, 1);
          x.retext(5, "a b");
          x.ways(1);
          x.best(-30, row('a', ' ', 'b'));
          x.retext(3, "ba");
          x.ways(1);
          // A token's bytes that stand there but for the last one.
          x.retext(2, "ba a");
          x.ways(1);
          x.sum(-40);
        });
    sentence("THE BEST is the CHOICE with the most POINTS together", () -> {
      Talk x = learnedFrom("abab", 32, 1);
      x.points('a', 5, 1);
      x.points('b', 5, 1);
      x.best(20, row('a', 'b', 'a', 'b'));
      x.points(256, 11, 1);
      x.best(22, row(256, 256));
      x.points('b', -100, 1);
      x.points(256, -96, 1);
      x.best(-190, row('a', 'b', 'a', 'b'));
      x.points(256, -94, 1);
      x.best(-188, row(256, 256));
      // Not what is told: 257 is worth more, though 256 was learned first.
      Talk y = learnedFrom("bcbcbc abab", 2, 2);
      y.retext(11, "abc");
      y.points(257, 3, 1);
      y.best(-7, row(257, 'c'));
      y.told('a', 256);
    });
    sentence("of several that with the fewest TOKENS", () -> {
      Talk x = learnedFrom("abab", 32, 1);
      x.points('a', 1, 1);
      x.points('b', 1, 1);
      x.best(4, row(256, 256));
      x.points(256, 1, 1);
      x.best(4, row('a', 'b', 'a', 'b'));
      x.points(256, -20, 1);
      x.points('a', -10, 1);
      x.points('b', -10, 1);
      x.best(-40, row(256, 256));
      x.points(256, -21, 1);
      x.best(-40, row('a', 'b', 'a', 'b'));
      Talk zero = learnedFrom("abab", 32, 1);
      zero.points('a', 0, 1);
      zero.points('b', 0, 1);
      zero.points(256, 0, 1);
      zero.best(0, row(256, 256));
    });
    sentence("of these the first one (at the first TOKEN in which two differ the lesser one first)",
        () -> {
          Talk x = learnedFrom("aaa", 32, 1);
          x.best(-8, row('a', 256));
          x.put(3, "aa");
          x.best(-6, row('a', 256, 256));
          x.retext(5, "aaa aaa");
          x.best(-26, row('a', 256, ' ', 'a', 256));
          // 256 257 258, and each other order of them, have 14 points: the second one decides too.
          Talk y = learnedFrom("a".repeat(16), 32, 3);
          y.cut(14, 16);
          y.best(14, row(256, 257, 258));
          // 255 is lesser than 256, and 0 is the least.
          Talk edge = learnedFrom(bytes(255, 255, 255), 32, 1);
          edge.best(-8, row(255, 256));
          Talk zero = learnedFrom(bytes(0, 0, 0), 32, 1);
          zero.best(-8, row(0, 256));
        });
  }

  private static void whichRefusal() {
    sentence("of several the first one here: -1 there is no such TOKEN, byte, place, -2 outside its"
        + " bounds, -4 no room.", () -> {
          Talk x = with("ab".repeat(60));
          x.octet(97, -4);
          x.octet(256, -2);
          x.octet(-1, -2);
          x.pair(256, 2, -1);
          x.pair(97, -1, -1);
          x.points(256, 101, -1);
          x.points(-1, -101, -1);
          x.learn(1, 1);
          x.pair(257, 2, -1);
          x.pair(256, 2, -2);
          x.points(257, 101, -1);
          x.points(256, 101, -2);
          x.decode(257, 0, -1);
          x.decode(257, -1, -1);
          x.decode(257, 2, -1);
          x.decode(-1, 1, -1);
          for (int far : FAR) {
            x.octet(far, -2);
            x.pair(255, far, -1);
            x.pair(far, far, -1);
            x.points(far, far, -1);
            x.decode(far, far, -1);
          }
        });
  }

  // ---- the promises

  private static void newObject() {
    sentence("An empty TEXT; nothing is LEARNED.", () -> {
      fresh(x -> x.octet(97, 1));
      fresh(x -> x.cut(0, 0));
      fresh(x -> x.cut(1, -2));
      fresh(x -> x.byteAt(0, -1));
      fresh(x -> x.words(0));
      fresh(x -> x.learn(32, 0));
      fresh(x -> x.learn(0, 0));
      fresh(x -> x.noSuchToken(256));
      fresh(x -> x.noSuchToken(287));
      fresh(x -> x.told());
      fresh(x -> x.from(0, -1));
      fresh(x -> x.best(0, row()));
      fresh(x -> x.ways(1));
      // Objects share nothing.
      Talk other = learnedFrom("abab", 32, 1);
      other.points('a', 5, 1);
      fresh(x -> {
        x.words(0);
        x.noSuchToken(256);
        x.put(0, "abab");
        x.told('a', 'b', 'a', 'b');
        x.sum(-40);
        x.cut(0, 4);
      });
      other.told(256, 256);
      other.words(1);
    });
  }

  private static void octet() {
    sentence("A byte more: how many there are.", () -> {
      Talk x = new Talk();
      for (int n = 1; n <= 120; n++) {
        x.octet(n == 120 ? 255 : 0, n);
      }
      x.byteAt(118, 0);
      x.byteAt(119, 255);
      x.cut(119, 120);
      x.octet(7, 120);
      x.byteAt(119, 7);
      x.cut(0, 120);
      x.octet(8, 1);
      x.byteAt(0, 8);
      x.byteAt(1, -1);
    });
    sentence("-2, -4.", () -> {
      Talk x = new Talk();
      x.octet(256, -2);
      for (int far : FAR) {
        x.octet(far, -2);
      }
      x.words(0);
      x.put(0, "b".repeat(120));
      x.octet(0, -4);
      x.octet(255, -4);
      x.octet(256, -2);
      for (int far : FAR) {
        x.octet(far, -2);
      }
      x.byteAt(119, 'b');
      x.byteAt(120, -1);
      x.cut(120, 120);
      x.octet(0, -4);
    });
  }

  private static void cut() {
    sentence("THE TEXT keeps its first n bytes: how many it had.", () -> {
      Talk x = with("abcd");
      x.cut(4, 4);
      x.byteAt(3, 'd');
      x.cut(3, 4);
      x.byteAt(2, 'c');
      x.byteAt(3, -1);
      x.told('a', 'b', 'c');
      x.sum(-30);
      x.cut(0, 3);
      x.byteAt(0, -1);
      x.words(0);
      x.told();
      x.best(0, row());
      x.ways(1);
      x.cut(0, 0);
      Talk full = with("ab ".repeat(40));
      full.cut(120, 120);
      full.words(41);
      full.cut(119, 120);
      full.words(40);
      full.cut(1, 119);
      full.words(1);
      full.cut(0, 1);
      // What was cut off does not come back, and does not count.
      Talk y = with("abab");
      y.cut(3, 4);
      y.octet('x', 4);
      y.byteAt(3, 'x');
      y.cut(3, 4);
      y.learn(32, 0);
      Talk z = learnedFrom("abab", 32, 1);
      z.cut(1, 4);
      z.told('a');
      z.ways(1);
      z.learned(256, 'a', 'b', 2);
    });
    sentence("-2 n is below 0, or more than it has.", () -> {
      fresh(x -> {
        x.cut(-1, -2);
        x.cut(1, -2);
        x.cut(120, -2);
        x.octet(97, 1);
        x.cut(2, -2);
        x.cut(-1, -2);
        for (int far : FAR) {
          x.cut(far, -2);
        }
        x.cut(1, 1);
      });
      Talk full = with("a".repeat(120));
      full.cut(121, -2);
      full.cut(-1, -2);
      full.octet(97, -4);
      full.cut(120, 120);
      full.cut(119, 120);
      full.cut(120, -2);
      full.byteAt(118, 'a');
      full.byteAt(119, -1);
    });
  }

  private static void byteAt() {
    sentence("Byte i, from 0. -1.", () -> {
      Talk x = with(bytes(255, 0, 32));
      x.byteAt(-1, -1);
      x.byteAt(0, 255);
      x.byteAt(1, 0);
      x.byteAt(2, 32);
      x.byteAt(3, -1);
      x.byteAt(119, -1);
      x.byteAt(120, -1);
      for (int far : FAR) {
        x.byteAt(far, -1);
      }
      Talk full = with("a".repeat(119) + "z");
      full.byteAt(0, 'a');
      full.byteAt(119, 'z');
      full.byteAt(120, -1);
      full.byteAt(121, -1);
    });
  }

  private static void words() {
    sentence("How many WORDS there are.", () -> {
      Talk x = new Talk();
      x.words(0);
      int[] words = {1, 2, 2, 2, 3, 3};
      String text = "a  b b";
      for (int i = 0; i < words.length; i++) {
        x.octet(text.charAt(i), i + 1);
        x.words(words[i]);
      }
      for (int n = words.length; n > 0; n--) {
        x.cut(n, n == words.length ? n : n + 1);
        x.words(words[n - 1]);
      }
      x.cut(0, 1);
      x.words(0);
    });
  }

  private static void learn() {
    sentence("TO LEARN, up to n (0 to 32) TOKENS: how many are LEARNED.", () -> {
      Talk x = with(twice(34));
      int[] limits = {0, 1, 2, 31, 32, 31, 1, 0};
      for (int n : limits) {
        x.learn(n, n);
        x.size(255 + n, n == 0 || n == 1 ? n + 1 : n == 2 ? 2 : n == 31 ? 16 : 32);
        x.size(256 + n, -1);
      }
      learnedFrom(twice(33), 32, 32).told(287, 287);
      Talk fewer = learnedFrom(twice(32), 32, 31);
      fewer.told(286, 286);
      fewer.learn(31, 31);
      fewer.learn(30, 30);
      fresh(y -> y.learn(32, 0));
    });
    sentence("TO LEARN, up to n (0 to 32) TOKENS: how many are LEARNED. -2.", () -> {
      Talk x = learnedFrom("ababcdcd", 1, 1);
      x.points(256, 77, 1);
      x.learn(-1, -2);
      x.learn(33, -2);
      for (int far : FAR) {
        x.learn(far, -2);
      }
      x.learned(256, 'a', 'b', 2);
      x.noSuchToken(257);
      x.sum(77 + 77 - 40);
    });
  }

  private static void pair() {
    sentence("The first (side 0), second (1) TOKEN of a LEARNED one.", () -> {
      Talk x = learnedFrom(twice(33), 32, 32);
      x.pair(256, 0, 100);
      x.pair(256, 1, 101);
      x.pair(287, 0, 286);
      x.pair(287, 1, 132);
      Talk edges = learnedFrom(bytes(0, 255, 1, 0, 255), 32, 1);
      edges.pair(256, 0, 0);
      edges.pair(256, 1, 255);
    });
    sentence("-1 it is none, -2 another side.", () -> {
      Talk x = learnedFrom("ababab", 32, 2);
      for (int token : new int[] {0, 97, 255, 258, 287, 288}) {
        x.pair(token, 0, -1);
        x.pair(token, 1, -1);
        x.pair(token, 2, -1);
        x.pair(token, -1, -1);
      }
      for (int token : new int[] {256, 257}) {
        x.pair(token, -1, -2);
        x.pair(token, 2, -2);
      }
      for (int far : FAR) {
        x.pair(far, 0, -1);
        x.pair(far, 1, -1);
        x.pair(256, far, -2);
        x.pair(257, far, -2);
      }
      x.learned(256, 'a', 'b', 3);
      x.learned(257, 256, 256, 2);
    });
  }

  private static void count() {
    sentence("How much its PAIR counted when it was LEARNED.", () -> {
      Talk x = learnedFrom("aaaaaa ab ab ab", 32, 4);
      x.count(256, 5);
      x.count(257, 3);
      x.count(258, 3);
      x.count(259, 2);
      x.retext(15, "aaa");
      x.count(256, 5);
      x.learn(32, 1);
      x.count(256, 2);
      learnedFrom("a".repeat(120), 1, 1).count(256, 119);
      learnedFrom(twice(33), 32, 32).count(287, 2);
    });
    sentence("How much its PAIR counted when it was LEARNED. -1 it is none.", () -> {
      Talk x = learnedFrom("abab", 32, 1);
      for (int token : new int[] {0, 97, 255, 257, 287, 288}) {
        x.count(token, -1);
      }
      for (int far : FAR) {
        x.count(far, -1);
      }
      x.count(256, 2);
    });
  }

  private static void size() {
    sentence("How many bytes a TOKEN has. -1.", () -> {
      Talk x = learnedFrom("ababab", 32, 2);
      x.size(-1, -1);
      x.size(0, 1);
      x.size(255, 1);
      x.size(256, 2);
      x.size(257, 4);
      x.size(258, -1);
      x.size(287, -1);
      x.size(288, -1);
      for (int far : FAR) {
        x.size(far, -1);
      }
      Talk large = learnedFrom(threeTimesForty(), 32, 10);
      large.size(264, 40);
      large.size(265, 80);
      large.size(266, -1);
    });
  }

  private static void decode() {
    sentence("Byte i, from 0, of a TOKEN. -1 no such TOKEN.", () -> {
      Talk x = learnedFrom(threeTimesForty(), 32, 10);
      for (int i = 0; i < 80; i++) {
        x.decode(265, i, i % 40 < 8 ? 'a' : 'b');
      }
      x.decode(0, 0, 0);
      x.decode(255, 0, 255);
      x.decode(-1, 0, -1);
      x.decode(266, 0, -1);
      x.decode(287, 0, -1);
      x.decode(288, 0, -1);
      for (int far : FAR) {
        x.decode(far, 0, -1);
        x.decode(266, far, -1);
      }
      // The bytes are those of the text that was learned from.
      x.retext(120, "zz");
      x.decode(265, 0, 'a');
      x.decode(265, 79, 'b');
    });
    sentence("ArrayIndexOutOfBoundsException: it has none such.", () -> {
      Talk x = learnedFrom(threeTimesForty(), 32, 10);
      for (int token : new int[] {0, 97, 255, 256, 265}) {
        int size = token < 256 ? 1 : token == 256 ? 2 : 80;
        x.size(token, size);
        x.decode(token, -1, THROWN);
        x.decode(token, size, THROWN);
        x.decode(token, 120, THROWN);
        for (int far : FAR) {
          x.decode(token, far, THROWN);
        }
      }
      x.decode(97, 0, 97);
      x.decode(265, 79, 'b');
      x.told(265, 264);
      fresh(y -> {
        y.decode(0, 1, THROWN);
        y.decode(0, -1, THROWN);
        y.decode(0, 0, 0);
      });
    });
  }

  private static void tokens() {
    sentence("How many TOKENS TELL THE TEXT.", () -> {
      fresh(x -> x.tokens(0));
      with("a").tokens(1);
      with("a".repeat(120)).tokens(120);
      learnedFrom("a".repeat(120), 1, 1).tokens(60);
      learnedFrom("a".repeat(120), 32, 6).tokens(4);
      Talk x = learnedFrom("abab", 32, 1);
      x.tokens(2);
      x.octet('a', 5);
      x.tokens(3);
      x.octet('b', 6);
      x.tokens(3);
      x.cut(1, 6);
      x.tokens(1);
      x.cut(0, 1);
      x.tokens(0);
    });
  }

  private static void at() {
    sentence("TOKEN i, from 0, of these. -1.", () -> {
      Talk x = learnedFrom("abab", 32, 1);
      x.octet('c', 5);
      x.at(-1, -1);
      x.at(0, 256);
      x.at(1, 256);
      x.at(2, 'c');
      x.at(3, -1);
      x.at(4, -1);
      x.at(5, -1);
      for (int far : FAR) {
        x.at(far, -1);
      }
      Talk full = with("a".repeat(119) + "z");
      full.at(118, 'a');
      full.at(119, 'z');
      full.at(120, -1);
      Talk empty = learnedFrom("abab", 32, 1);
      empty.cut(0, 4);
      empty.at(0, -1);
    });
  }

  private static void from() {
    sentence("At which byte of THE TEXT TOKEN i of these begins. -1.", () -> {
      Talk x = learnedFrom("abab", 32, 1);
      x.octet('c', 5);
      x.from(-1, -1);
      x.from(0, 0);
      x.from(1, 2);
      x.from(2, 4);
      x.from(3, -1);
      x.from(4, -1);
      x.from(5, -1);
      for (int far : FAR) {
        x.from(far, -1);
      }
      Talk full = with("a".repeat(120));
      full.from(0, 0);
      full.from(119, 119);
      full.from(120, -1);
      full.learn(32, 6);
      full.from(0, 0);
      full.from(1, 64);
      full.from(2, 96);
      full.from(3, 112);
      full.from(4, -1);
      Talk empty = learnedFrom("abab", 32, 1);
      empty.cut(0, 4);
      empty.from(0, -1);
    });
  }

  private static void points() {
    sentence("A TOKEN has POINTS: 1. -1, -2.", () -> {
      Talk x = learnedFrom("abab", 32, 1);
      for (int token : new int[] {-1, 257, 258, 287, 288}) {
        x.points(token, 0, -1);
        x.points(token, 100, -1);
        x.points(token, 101, -1);
        x.points(token, -101, -1);
      }
      for (int far : FAR) {
        x.points(far, 0, -1);
        x.points('a', far, far == -1 || far == -2 ? 1 : -2);
        x.points(256, far, far == -1 || far == -2 ? 1 : -2);
      }
      x.points(0, 1, 1);
      x.points(255, 2, 1);
      x.points(256, 3, 1);
      x.sum(6);
      x.retext(4, bytes(0));
      x.sum(1);
      x.retext(1, bytes(255));
      x.sum(2);
      // Points that were refused to a token that was not there are not waiting for it.
      Talk late = with("abab");
      late.points(256, 50, -1);
      late.learn(1, 1);
      late.sum(4);
    });
  }

  private static void best() {
    sentence("How many TOKENS THE BEST has.", () -> {
      fresh(x -> x.best(0));
      with("a").best(1);
      with("a".repeat(120)).best(120);
      Talk x = learnedFrom("a".repeat(120), 1, 1);
      x.best(60);
      x.points(256, -100, 1);
      x.best(120);
      x.cut(0, 120);
      x.best(0);
    });
  }

  private static void bestAt() {
    sentence("TOKEN i, from 0, of THE BEST. -1.", () -> {
      Talk x = learnedFrom("abab", 32, 1);
      x.octet('c', 5);
      x.bestAt(-1, -1);
      x.bestAt(0, 256);
      x.bestAt(1, 256);
      x.bestAt(2, 'c');
      x.bestAt(3, -1);
      x.bestAt(4, -1);
      x.bestAt(5, -1);
      for (int far : FAR) {
        x.bestAt(far, -1);
      }
      Talk full = with("a".repeat(119) + "z");
      full.bestAt(0, 'a');
      full.bestAt(118, 'a');
      full.bestAt(119, 'z');
      full.bestAt(120, -1);
      full.bestAt(121, -1);
      // A shorter text has no tokens of the longer one.
      full.cut(2, 120);
      full.bestAt(1, 'a');
      full.bestAt(2, -1);
      full.cut(0, 2);
      full.bestAt(0, -1);
    });
  }

  private static void sum() {
    sentence("The POINTS of THE BEST, together (perhaps below 0).", () -> {
      fresh(x -> x.sum(0));
      with("a").sum(-10);
      Talk x = with("a".repeat(120));
      x.points('a', -100, 1);
      x.sum(-12000);
      x.points('a', 100, 1);
      x.sum(12000);
      x.points('a', 0, 1);
      x.sum(0);
      x.points('a', -1, 1);
      x.sum(-120);
      x.learn(1, 1);
      x.points(256, 100, 1);
      x.sum(6000);
      x.cut(119, 120);
      x.sum(5899);
      x.points(256, -100, 1);
      x.sum(-119);
      x.cut(0, 119);
      x.sum(0);
    });
  }

  private static void ways() {
    sentence("How many CHOICES there are", () -> {
      with("abab").ways(1);
      Talk x = learnedFrom("aaa", 32, 1);
      int[] ways = {1, 1, 2, 3, 5, 8, 13, 21};
      for (int n = 0; n < ways.length; n++) {
        x.retext(n == 0 ? 3 : n - 1, "a".repeat(n));
        x.ways(ways[n]);
      }
      x.retext(7, "aaa aa aaa");
      x.ways(18);
      x.points(256, -100, 1);
      x.ways(18);
      x.learn(0, 0);
      x.ways(1);
    });
    sentence("1000000 at most", () -> {
      Talk x = learnedFrom("aaa", 32, 1);
      x.retext(3, runs(13, 8, 6, 3, 2));
      x.ways(999804);
      x.retext(36, runs(4, 4, 4, 4, 4, 4, 2, 2, 2, 2, 2, 2));
      x.ways(1000000);
      x.retext(47, runs(7, 7, 7, 3, 3, 3, 2, 2));
      x.ways(1000000);
      x.retext(41, "a".repeat(29));
      x.ways(832040);
      x.octet('a', 30);
      x.ways(1000000);
      x.octet(' ', 31);
      x.ways(1000000);
      x.put(31, "aa");
      x.ways(1000000);
      // More than a long can hold: 120 bytes in steps of one and two.
      Talk full = learnedFrom("a".repeat(120), 1, 1);
      full.ways(1000000);
      full.learn(32, 6);
      full.ways(1000000);
      Talk product = learnedFrom("aa ".repeat(40), 1, 1);
      product.ways(1000000);
    });
    sentence("(without bytes one)", () -> {
      fresh(x -> x.ways(1));
      Talk x = learnedFrom("aaa", 32, 1);
      x.ways(3);
      x.cut(0, 3);
      x.ways(1);
      x.learn(32, 0);
      x.ways(1);
    });
  }

  /** Words of that many bytes, the space not counted. */
  private static String runs(int... lengths) {
    StringBuilder s = new StringBuilder();
    for (int length : lengths) {
      s.append(s.length() == 0 ? "" : " ").append("a".repeat(length));
    }
    return s.toString();
  }

  public static void main(String[] args) {
    calls();
    theText();
    wordsOfTheText();
    theTokens();
    toLearn();
    toTell();
    thePoints();
    theBest();
    whichRefusal();
    newObject();
    octet();
    cut();
    byteAt();
    words();
    learn();
    pair();
    count();
    size();
    decode();
    tokens();
    at();
    from();
    points();
    best();
    bestAt();
    sum();
    ways();
    System.out.println(sentences + " sentences, " + answers + " answers, " + wrong + " not as due");
    if (wrong != 0) {
      System.exit(1);
    }
  }
}
