import java.util.ArrayList;
import java.util.List;

/**
 * "REFUSALS are answers below 0, and change nothing": each refused call is made on objects in
 * several states, and afterwards all that can be asked is compared with what an object answers
 * that was brought into the same state without the refused call. The same is asked of decode where
 * it throws.
 */
public final class RefusalsTest {
  private static final int[] FAR = {
    Integer.MIN_VALUE, Integer.MIN_VALUE + 256, -65536, -256, Integer.MAX_VALUE - 255, 65536 + 97,
    Integer.MAX_VALUE
  };
  private static final int THROWN = -99;
  private static final int CALLS_OF_AN_OBJECT = 512;
  private static final int BYTES_OF_A_PART = 64;

  private static int refused = 0;
  private static int answers = 0;
  private static int wrong = 0;

  private interface Call {
    int on(PairTokens x);
  }

  /** What is asked after the refused call, on an object of its own. */
  private interface Part {
    void ask(Subject subject);
  }

  private record Named(String name, Call call, int want) {
  }

  /** An object, its answers, and how many calls it has had. */
  private static final class Subject {
    final PairTokens x = new PairTokens();
    final List<Integer> answers = new ArrayList<>();
    private int calls = 0;

    int call(Call call) {
      calls++;
      if (calls == CALLS_OF_AN_OBJECT + 1) {
        report("a test makes more calls than the document tells of");
      }
      try {
        return call.on(x);
      } catch (ArrayIndexOutOfBoundsException e) {
        return THROWN;
      }
    }

    void ask(Call call) {
      answers.add(call(call));
    }

    void put(String text) {
      for (int i = 0; i < text.length(); i++) {
        int b = text.charAt(i);
        call(y -> y.octet(b));
      }
    }
  }

  /** Learns up to n tokens from one text, gives points, and goes on with another text. */
  private record State(String name, String source, int n, int[][] points, String text) {
    Subject make() {
      Subject subject = new Subject();
      subject.put(source);
      if (n > 0) {
        subject.call(x -> x.learn(n));
      }
      for (int[] given : points) {
        subject.call(x -> x.points(given[0], given[1]));
      }
      if (!text.equals(source)) {
        subject.call(x -> x.cut(0));
        subject.put(text);
      }
      return subject;
    }

    int learned() {
      PairTokens x = make().x;
      int found = 0;
      while (found < 32 && x.size(256 + found) > 0) {
        found++;
      }
      return found;
    }

    String bytesOf(int token) {
      PairTokens x = make().x;
      StringBuilder s = new StringBuilder();
      for (int i = 0; i < x.size(token); i++) {
        s.append((char) x.decode(token, i));
      }
      return s.toString();
    }
  }

  private static void report(String what) {
    wrong++;
    if (wrong <= 50) {
      System.out.println(what);
    }
  }

  private static String distinct(int n) {
    StringBuilder s = new StringBuilder();
    for (int i = 0; i < n; i++) {
      s.append((char) (100 + i));
    }
    return s.toString();
  }

  private static List<State> states() {
    int[][] none = {};
    String many = distinct(34);
    String full = (many + many + " " + many + many).substring(0, 120);
    return List.of(
        new State("new", "", 0, none, ""),
        new State("one byte", "a", 0, none, "a"),
        new State("nothing learned", "ab a  b", 0, new int[][] {{'a', 3}, {255, 100}}, "ab a  b"),
        new State("learned", "abcabc abab", 32, none, "abcabc abab"),
        new State("learned, another text, other points", "abcabc abab", 32,
            new int[][] {{256, 7}, {257, -100}, {'a', 3}, {0, 100}, {' ', -100}}, "cabc ab abcc"),
        new State("learned, no text", "abcabc abab", 32, new int[][] {{256, 100}}, ""),
        new State("full, nothing learned", "ab ".repeat(40), 0, none, "ab ".repeat(40)),
        new State("one byte and one token less than full", distinct(32) + distinct(32), 32,
            new int[][] {{286, 1}}, full.substring(0, 119)),
        new State("full, all learned", many + many, 32, new int[][] {{287, 40}, {272, -5}}, full));
  }

  // ---- the refused calls

  private static List<Named> refusedCalls(State state) {
    List<Named> all = new ArrayList<>();
    refusedOfText(all, state.text().length());
    refusedOfTokens(all, state);
    PairTokens x = state.make().x;
    refusedOfRows(all, x.tokens(), x.best());
    return all;
  }

  private static List<Integer> outside(int least, int end) {
    List<Integer> all = new ArrayList<>();
    all.add(least - 1);
    all.add(end);
    all.add(end + 1);
    for (int far : FAR) {
      all.add(far);
    }
    return all;
  }

  private static void refusedOfText(List<Named> all, int length) {
    for (int b : outside(0, 256)) {
      all.add(new Named("octet(" + b + ")", x -> x.octet(b), -2));
    }
    if (length == 120) {
      for (int b : new int[] {0, 32, 97, 255}) {
        all.add(new Named("octet(" + b + ")", x -> x.octet(b), -4));
      }
    }
    for (int n : outside(0, length + 1)) {
      all.add(new Named("cut(" + n + ")", x -> x.cut(n), -2));
    }
    for (int i : outside(0, length)) {
      all.add(new Named("byteAt(" + i + ")", x -> x.byteAt(i), -1));
    }
    for (int n : outside(0, 33)) {
      all.add(new Named("learn(" + n + ")", x -> x.learn(n), -2));
    }
  }

  private static void refusedOfTokens(List<Named> all, State state) {
    int end = 256 + state.learned();
    for (int token : outside(0, end)) {
      noSuch(all, token);
      all.add(new Named("size(" + token + ")", x -> x.size(token), -1));
      for (int i : new int[] {-1, 0, 1}) {
        all.add(new Named("decode(" + token + ", " + i + ")", x -> x.decode(token, i), -1));
      }
      for (int points : new int[] {-101, 0, 101}) {
        all.add(new Named("points(" + token + ", " + points + ")", x -> x.points(token, points), -1));
      }
    }
    for (int token : new int[] {0, 97, 255}) {
      noSuch(all, token);
      refusedOfToken(all, token, 1);
    }
    if (end > 256) {
      for (int token : new int[] {256, end - 1}) {
        for (int side : outside(0, 2)) {
          all.add(new Named("pair(" + token + ", " + side + ")", x -> x.pair(token, side), -2));
        }
        refusedOfToken(all, token, state.bytesOf(token).length());
      }
    }
  }

  /** Of the calls that ask for learned tokens. */
  private static void noSuch(List<Named> all, int token) {
    for (int side : new int[] {-1, 0, 1, 2}) {
      all.add(new Named("pair(" + token + ", " + side + ")", x -> x.pair(token, side), -1));
    }
    all.add(new Named("count(" + token + ")", x -> x.count(token), -1));
  }

  private static void refusedOfToken(List<Named> all, int token, int size) {
    for (int points : new int[] {-101, 101, Integer.MIN_VALUE, Integer.MAX_VALUE}) {
      all.add(new Named("points(" + token + ", " + points + ")", x -> x.points(token, points), -2));
    }
    for (int i : outside(0, size)) {
      all.add(new Named("decode(" + token + ", " + i + ")", x -> x.decode(token, i), THROWN));
    }
  }

  private static void refusedOfRows(List<Named> all, int told, int best) {
    for (int i : outside(0, told)) {
      all.add(new Named("at(" + i + ")", x -> x.at(i), -1));
      all.add(new Named("from(" + i + ")", x -> x.from(i), -1));
    }
    for (int i : outside(0, best)) {
      all.add(new Named("bestAt(" + i + ")", x -> x.bestAt(i), -1));
    }
  }

  // ---- what is asked afterwards

  private static List<Part> parts(State state) {
    List<Part> parts = new ArrayList<>();
    int length = state.text().length();
    int learned = state.learned();
    parts.add(subject -> askText(subject, length));
    parts.add(subject -> askTold(subject, length));
    parts.add(subject -> askBest(subject, length));
    parts.add(subject -> askLearned(subject, learned));
    parts.add(RefusalsTest::goOn);
    parts.add(RefusalsTest::learnAgain);
    for (int least = 0; least < 256; least += BYTES_OF_A_PART) {
      int from = least;
      parts.add(subject -> askPointsOfBytes(subject, from));
    }
    for (int token = 256; token < 256 + learned; token++) {
      int one = token;
      String bytes = state.bytesOf(token);
      parts.add(subject -> askBytes(subject, one, bytes.length()));
      parts.add(subject -> askPointsOfLearned(subject, one, bytes, learned));
    }
    return parts;
  }

  private static void askText(Subject subject, int length) {
    for (int i = 0; i <= length; i++) {
      int one = i;
      subject.ask(x -> x.byteAt(one));
    }
    subject.ask(PairTokens::words);
  }

  private static void askTold(Subject subject, int length) {
    subject.ask(PairTokens::tokens);
    int told = subject.answers.get(0);
    for (int i = 0; i <= told && i <= length; i++) {
      int one = i;
      subject.ask(x -> x.at(one));
      subject.ask(x -> x.from(one));
    }
  }

  private static void askBest(Subject subject, int length) {
    subject.ask(PairTokens::best);
    int best = subject.answers.get(0);
    for (int i = 0; i <= best && i <= length; i++) {
      int one = i;
      subject.ask(x -> x.bestAt(one));
    }
    subject.ask(PairTokens::sum);
    subject.ask(PairTokens::ways);
  }

  private static void askLearned(Subject subject, int learned) {
    for (int token = 255; token <= 256 + learned; token++) {
      int one = token;
      subject.ask(x -> x.pair(one, 0));
      subject.ask(x -> x.pair(one, 1));
      subject.ask(x -> x.count(one));
      subject.ask(x -> x.size(one));
    }
  }

  private static void askBytes(Subject subject, int token, int size) {
    for (int i = 0; i <= size; i++) {
      int one = i;
      subject.ask(x -> x.decode(token, one));
    }
  }

  private static void askPointsOfBytes(Subject subject, int from) {
    for (int b = from; b < from + BYTES_OF_A_PART; b++) {
      int one = b;
      subject.ask(x -> x.cut(0));
      subject.ask(x -> x.octet(one));
      subject.ask(PairTokens::sum);
    }
  }

  /** All that its bytes could be told in instead is given the least points, so the sum is its own. */
  private static void askPointsOfLearned(Subject subject, int token, String bytes, int learned) {
    for (int other = 256; other < 256 + learned; other++) {
      int one = other;
      if (other != token) {
        subject.ask(x -> x.points(one, -100));
      }
    }
    subject.ask(x -> x.cut(0));
    for (int i = 0; i < bytes.length(); i++) {
      int b = bytes.charAt(i);
      subject.ask(x -> x.points(b, -100));
      subject.ask(x -> x.octet(b));
    }
    subject.ask(PairTokens::sum);
  }

  private static void goOn(Subject subject) {
    subject.ask(x -> x.octet('a'));
    subject.ask(x -> x.octet('b'));
    subject.ask(PairTokens::words);
    subject.ask(PairTokens::tokens);
    subject.ask(PairTokens::sum);
    subject.ask(PairTokens::ways);
    subject.ask(x -> x.cut(1));
    subject.ask(x -> x.octet(255));
    subject.ask(x -> x.byteAt(0));
    subject.ask(x -> x.byteAt(1));
    subject.ask(PairTokens::sum);
  }

  private static void learnAgain(Subject subject) {
    subject.ask(x -> x.learn(32));
    subject.ask(PairTokens::tokens);
    subject.ask(PairTokens::sum);
    subject.ask(x -> x.learn(1));
    subject.ask(x -> x.pair(256, 0));
    subject.ask(x -> x.count(256));
    subject.ask(PairTokens::sum);
    subject.ask(x -> x.learn(0));
    subject.ask(PairTokens::tokens);
    subject.ask(PairTokens::sum);
  }

  // ---- the comparison

  private static List<Integer> answersOf(State state, Part part, Named call) {
    Subject subject = state.make();
    if (call != null) {
      int got = subject.call(call.call());
      if (got != call.want()) {
        report(state.name() + ": " + call.name() + " answered " + got + ", due is " + call.want());
      }
    }
    part.ask(subject);
    return subject.answers;
  }

  private static void compare(State state) {
    List<Named> calls = refusedCalls(state);
    List<Part> parts = parts(state);
    for (Part part : parts) {
      List<Integer> want = answersOf(state, part, null);
      for (Named call : calls) {
        List<Integer> got = answersOf(state, part, call);
        answers += got.size();
        if (!got.equals(want)) {
          report(state.name() + ": after " + call.name() + " answers are " + got + ", due is " + want);
        }
      }
    }
    refused += calls.size();
  }

  public static void main(String[] args) {
    for (State state : states()) {
      try {
        compare(state);
      } catch (RuntimeException e) {
        report(state.name() + ": a call threw " + e);
      }
    }
    System.out.println(refused + " refused calls, " + answers + " answers afterwards, " + wrong
        + " not as due");
    if (wrong != 0) {
      System.exit(1);
    }
  }
}
