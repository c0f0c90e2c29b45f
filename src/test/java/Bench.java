/** What the tests by hand share: texts written on the tape, modules and governors made of them, answers looked at. */
abstract class Bench {
  static final int MIN = Integer.MIN_VALUE, MAX = Integer.MAX_VALUE;

  static int wrong = 0;
  static int edges = 0;
  static String section = "";

  /** The test of one sentence of the document that names a boundary case. */
  static void edge(String sentence, Runnable test) {
    section = sentence;
    edges++;
    test.run();
  }

  static void due(String call, int got, int want) {
    if (got != want) {
      wrong++;
      System.out.println(section + ": " + call + " answered " + got + ", due is " + want);
    }
  }

  static void finish(String praise) {
    System.out.println(wrong == 0 ? praise : wrong + " answers are not as due");
    if (wrong != 0) System.exit(1);
  }

  static String times(int n, String text) { return text.repeat(n); }

  /** Feeds a text and cuts the blanks behind it off again. */
  static void write(BeatMill x, String text) {
    int had = x.count(2);
    for (int at = 0; at < text.length(); at += 20) {
      int[] five = new int[5];
      for (int i = 0; i < 20; i++) {
        int b = at + i < text.length() ? text.charAt(at + i) : ' ';
        five[i / 4] |= b << 24 - 8 * (i % 4);
      }
      x.feed(five[0], five[1], five[2], five[3], five[4]);
    }
    x.end(had + text.length());
  }

  /** One module more, whose number is due. */
  static void add(BeatMill x, String text, int number) {
    write(x, text);
    int answer = x.compile();
    if (answer != number) {
      wrong++;
      System.out.println(section + ": [" + text + "] does not compile: " + answer + ", fault " + x.fault());
    }
  }

  static BeatMill made(String text) {
    BeatMill x = new BeatMill();
    add(x, text, 0);
    return x;
  }

  /** An object with one module and one governor of it. */
  static BeatMill run(String text) {
    BeatMill x = made(text);
    due("governor(0) of " + text, x.governor(0), 0);
    return x;
  }

  static void faulty(String text, int place, int fault) {
    BeatMill x = new BeatMill();
    write(x, text);
    due("compile() of [" + text + "]", x.compile(), -10 - place);
    due("fault() of [" + text + "]", x.fault(), fault);
    due("count(0) behind it", x.count(0), 0);
    due("count(2) behind it", x.count(2), 0);
  }

  static void fine(String text) {
    BeatMill x = made(text);
    due("fault() of [" + text + "]", x.fault(), 0);
  }

  /** A beat with some inputs given (bit by bit, with their numbers, 0 if none), its answer and the signals present. */
  static void beat(BeatMill x, int inputs, int answer, int shown, int... numbers) {
    for (int i = 0; i < 4; i++) {
      if ((inputs >> i & 1) == 1) x.give(0, i, true, i < numbers.length ? numbers[i] : 0);
    }
    due("beat(0)", x.beat(0), answer);
    int seen = 0;
    for (int s = 0; s < 16; s++) if (x.present(0, s) == 1) seen |= 1 << s;
    due("signals present", seen, shown);
  }

  /** GO, SEL, K0, K1, K2 of a part. */
  static void wires(BeatMill x, int part, int... want) {
    for (int what = 0; what < 5; what++) due("wire(0, " + part + ", " + what + ")", x.wire(0, part, what), want[what]);
  }

  static void tolds(BeatMill x, int... want) {
    for (int what = 0; what < 8; what++) due("told(0, " + what + ")", x.told(0, what), want[what]);
  }

  /** A first beat that fails, with the variable as it was. */
  static void failing(String text, int variable, int failure, int part) {
    BeatMill x = run(text);
    beat(x, 0, 2, 0);
    due("FAILURE of " + text, x.told(0, 4), failure);
    due("part of " + text, x.told(0, 5), part);
    due("variable of " + text, x.variable(0, 0), variable);
    due("beats of " + text, x.told(0, 0), 0);
  }
}
