import java.lang.management.ManagementFactory;
import java.util.Random;

/** No call throws, for any arguments in any state and any bytes on the tape, and what a run makes stays far below its room. */
public final class NoThrowTest extends Bench {
  private static final int CALLS = 512, RUNS = 6000;
  /** An element has a byte at least and an object sixteen, so that this is below a third of the room in both. */
  private static final long MOST_BYTES = 2000000;
  private static final String[] TOKENS = ("; , : ( ) [ ] || := ? + - * / % = != < <= > >= . ! | input output signal one sum most var nothing pause halt "
      + "emit sustain loop end present then else await immediate abort weak when suspend every do trap in exit if and or not pre "
      + "a b x y v w 0 7 999999 1234567 abcdefghij abcdefghijk").split(" ");

  private final Random random;
  private final BeatMill mill = new BeatMill();
  private int calls;

  private NoThrowTest(int seed) { random = new Random(seed * 104729L); }

  public static void main(String[] args) {
    int compiled = 0;
    for (int seed = 1; seed <= RUNS && wrong < 20; seed++) {
      section = "seed " + seed;
      NoThrowTest run = new NoThrowTest(seed);
      int[][] text = run.cut(run.text(seed % 4));
      long before = allocated();
      compiled += run.go(text);
      checkRoom(allocated() - before);
    }
    section = "the dearest run";
    long before = allocated();
    compiled += dearest();
    checkRoom(allocated() - before);
    section = "all runs";
    due("enough modules", compiled > RUNS / 4 ? 1 : 0, 1);
    finish("no call threw; " + compiled + " modules were made");
  }

  private static void checkRoom(long bytes) {
    due("room is left (" + bytes + " bytes were made)", bytes <= MOST_BYTES ? 1 : 0, 1);
  }

  /** What this thread has made, in bytes; 0 on a machine that does not tell. */
  private static long allocated() {
    if (ManagementFactory.getThreadMXBean() instanceof com.sun.management.ThreadMXBean tells) return tells.getCurrentThreadAllocatedBytes();
    return 0;
  }

  /** A text of many wires, compiled and searched as often as an object's calls allow. */
  private static int dearest() {
    String branch = "weak abort abort suspend every a do await b end when b end when c end when d end";
    String text = "input a;input b;input c;input d;output x;trap t in trap u in[" + branch + "||" + branch + "||" + branch + "||sustain x]end end";
    int callsEach = text.length() / 20 + 5;
    int made = 0;
    BeatMill x = new BeatMill();
    for (int used = callsEach; used <= CALLS; used += callsEach) {
      write(x, text);
      if (x.compile() == 0) made++;
      x.search(0);
      x.clear();
    }
    due("the dearest text compiles", made, CALLS / callsEach);
    return made;
  }

  private int go(int[][] text) {
    int made = 0;
    try {
      while (calls + text.length + 3 < CALLS) {
        if (calls == 0 || random.nextInt(60) == 0) made += compile(text);
        else call(random.nextInt(28));
      }
    } catch (RuntimeException | StackOverflowError thrown) {
      wrong++;
      System.out.println(section + ": call " + calls + " threw " + thrown);
    }
    return made;
  }

  private int compile(int[][] text) {
    for (int[] five : text) mill.feed(five[0], five[1], five[2], five[3], five[4]);
    int answer = mill.compile();
    mill.governor(answer);
    mill.search(answer);
    calls += text.length + 3;
    return answer >= 0 ? 1 : 0;
  }

  private void call(int which) {
    calls++;
    switch (which) {
      case 0: mill.feed(any(), any(), any(), any(), any()); break;
      case 1: mill.end(any()); break;
      case 2: mill.compile(); break;
      case 3: mill.fault(); break;
      case 4: mill.module(any(), any()); break;
      case 5: mill.part(any(), any()); break;
      case 6: mill.governor(any()); break;
      case 7: mill.give(any(), any(), random.nextBoolean(), any()); break;
      case 8: case 9: mill.beat(any()); break;
      case 10: mill.present(any(), any()); break;
      case 11: mill.value(any(), any()); break;
      case 12: mill.variable(any(), any()); break;
      case 13: mill.wire(any(), any(), any()); break;
      case 14: mill.told(any(), any()); break;
      case 15: mill.paused(any(), any()); break;
      case 16: mill.keep(any()); break;
      case 17: mill.back(any()); break;
      case 18: mill.same(any(), any()); break;
      case 19: mill.search(any()); break;
      case 20: mill.move(any(), any(), any(), any()); break;
      case 21: mill.classOf(any(), any()); break;
      case 22: mill.way(any(), any(), any()); break;
      case 23: mill.never(any(), any()); break;
      case 24: mill.always(any(), any(), any()); break;
      case 25: mill.against(any()); break;
      case 26: mill.count(any()); break;
      default: if (random.nextInt(10) == 0) mill.clear();
    }
  }

  private int any() {
    switch (random.nextInt(6)) {
      case 0: return random.nextInt();
      case 1: return MIN + random.nextInt(3);
      case 2: return MAX - random.nextInt(3);
      case 3: return random.nextInt(40) - 20;
      default: return random.nextInt(6) - 1;
    }
  }

  private int[][] cut(String text) {
    int[][] fives = new int[(text.length() + 19) / 20][5];
    for (int i = 0; i < fives.length * 20; i++) {
      fives[i / 20][i % 20 / 4] |= (i < text.length() ? text.charAt(i) : ' ') << 24 - 8 * (i % 4);
    }
    return fives;
  }

  /** Any bytes, any tokens, or a text of the grammar, which may go beyond each limit. */
  private String text(int style) {
    StringBuilder text = new StringBuilder();
    if (style == 0) {
      while (text.length() < 800) text.append((char) random.nextInt(256));
    } else if (style == 1) {
      while (text.length() < 800) text.append(TOKENS[random.nextInt(TOKENS.length)]).append(random.nextInt(3) == 0 ? "" : " ");
    } else {
      text.append("input a:one;input b;output x;output y:sum;var v:=3;").append(seq(style == 2 ? 2 : 5));
    }
    return text.length() > 800 ? text.substring(0, 800) : text.toString();
  }

  private String condition(int depth) {
    String name = "abxy".substring(random.nextInt(4)).substring(0, 1);
    switch (random.nextInt(depth > 0 ? 6 : 2)) {
      case 0: return name;
      case 1: return "pre " + name;
      case 2: return "not " + condition(depth - 1);
      case 3: return "(" + condition(depth - 1) + ")";
      case 4: return condition(depth - 1) + " and " + condition(depth - 1);
      default: return condition(depth - 1) + " or " + condition(depth - 1);
    }
  }

  private String sum(int depth) {
    switch (random.nextInt(depth > 0 ? 6 : 3)) {
      case 0: return "" + random.nextInt(1000000);
      case 1: return "v";
      case 2: return "?a";
      case 3: return "-" + sum(depth - 1);
      case 4: return "(" + sum(depth - 1) + ")";
      default: return sum(depth - 1) + "+-*/%".charAt(random.nextInt(5)) + sum(depth - 1);
    }
  }

  private String seq(int depth) {
    StringBuilder text = new StringBuilder(part(depth));
    for (int more = random.nextInt(3); more > 0; more--) text.append(';').append(part(depth));
    return text.toString();
  }

  private String part(int depth) {
    String now = random.nextBoolean() ? "immediate " : "";
    String trap = "t" + (char) ('a' + depth);
    switch (random.nextInt(depth > 0 ? 16 : 7)) {
      case 0: return "pause";
      case 1: return "emit x";
      case 2: return "sustain x";
      case 3: return "v:=" + sum(2);
      case 4: return "await " + now + condition(2);
      case 5: return "emit y(" + sum(2) + ")";
      case 6: return "nothing";
      case 7: return "loop " + seq(depth - 1) + ";pause end";
      case 8: return "present " + condition(2) + " then " + seq(depth - 1) + " else " + seq(depth - 1) + " end";
      case 9: return "abort " + seq(depth - 1) + " when " + now + condition(2) + " end";
      case 10: return "weak abort " + seq(depth - 1) + " when " + now + condition(2) + " end";
      case 11: return "suspend " + seq(depth - 1) + " when " + condition(2) + " end";
      case 12: return "every " + now + condition(2) + " do " + seq(depth - 1) + " end";
      case 13: return "trap " + trap + " in " + seq(depth - 1) + ";exit " + trap + " end";
      case 14: return "if " + sum(1) + "<" + sum(1) + " then " + seq(depth - 1) + " end";
      default: return "[" + seq(depth - 1) + "||" + seq(depth - 1) + "]";
    }
  }
}
