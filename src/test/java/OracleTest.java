import java.util.ArrayList;
import java.util.Arrays;
import java.util.HashMap;
import java.util.List;
import java.util.Map;
import java.util.Random;
import java.util.Set;
import java.util.TreeSet;

/**
 * Runs random calls on BeatMill and on a plain model of the document beside it, and compares all answers.
 * The model is written anew from the document: objects for kernel parts, the wires' equations worked over
 * and over from nothing known on, each MOVE by itself, and ALIKE as what is left when all that differs is struck.
 */
public final class OracleTest {
  private static int wrong = 0;
  /** How often each kind of answer came: runs in which one of them is rare would prove little. */
  private static final Map<String, Integer> seen = new java.util.TreeMap<>();

  private static void see(String what) { seen.merge(what, 1, Integer::sum); }

  private static void checkSeen() {
    for (String what : ("fault 0,fault 1,fault 2,fault 3,fault 4,fault 5,fault 6,fault 7,fault 8,beat 0,beat 1,beat 2,beat 3,"
        + "failure 1,failure 2,failure 3,beyond,many states,fewer classes,stuck move,ending move,with pre,with ifs,with inputs").split(",")) {
      if (seen.getOrDefault(what, 0) < 10) {
        wrong++;
        System.out.println("too rare to prove something: " + what + " " + seen.getOrDefault(what, 0));
      }
    }
  }

  public static void main(String[] args) {
    int from = args.length > 0 ? Integer.parseInt(args[0]) : 1;
    int to = args.length > 1 ? Integer.parseInt(args[1]) : 4000;
    int compiled = 0;
    for (int seed = from; seed <= to && wrong < 20; seed++) {
      compiled += new Run(seed).go();
    }
    if (args.length == 0) checkSeen();
    else System.out.println(seen);
    System.out.println(wrong == 0 ? "the model agrees on " + compiled + " modules" : wrong + " runs differ");
    if (wrong != 0) System.exit(1);
  }

  /** One run of calls on new objects, until they differ. */
  private static final class Run {
    final int seed;
    final Random random;
    final BeatMill mill = new BeatMill();
    final Model model = new Model();
    final StringBuilder log = new StringBuilder();
    int calls;
    int compiled;
    boolean differs;

    Run(int seed) { this.seed = seed; random = new Random(seed * 7919L); }

    int go() {
      int texts = 1 + random.nextInt(3);
      for (int i = 0; i < texts && !differs; i++) {
        Texts texting = new Texts(random);
        String text = texting.module();
        int style = random.nextInt(10);
        if (style < 3) text = texting.spoiled(text);
        write(text);
        if (random.nextInt(8) == 0) calls(10);
        check("compile()", mill.compile(), model.compile());
        check("fault()", mill.fault(), model.fault);
        see("fault " + model.fault);
        compiled = Math.max(compiled, model.modules.size());
      }
      calls(20 + random.nextInt(300));
      if (differs) {
        wrong++;
        System.out.println("seed " + seed + ":\n" + log);
      }
      return compiled;
    }

    void check(String call, int got, int due) {
      calls++;
      if (got != due && !differs) {
        differs = true;
        log.append(call).append(" answered ").append(got).append(", the model ").append(due).append('\n');
      } else if (!differs) {
        log.append(call).append(" ").append(got).append('\n');
      }
    }

    void write(String text) {
      if (text.length() > 800) text = text.substring(0, 800);
      log.append("text: ").append(text).append('\n');
      for (int at = 0; at < text.length(); at += 20) {
        int[] five = new int[5];
        for (int i = 0; i < 20; i++) {
          int b = at + i < text.length() ? text.charAt(at + i) : 32;
          five[i / 4] |= b << 24 - 8 * (i % 4);
        }
        check("feed", mill.feed(five[0], five[1], five[2], five[3], five[4]), model.feed(five));
      }
      int cut = random.nextInt(6) == 0 ? text.length() : model.tape.length();
      if (model.tape.length() >= cut) check("end(" + cut + ")", mill.end(cut), model.end(cut));
    }

    int near(int limit) { return random.nextInt(12) == 0 ? random.nextInt(limit + 8) - 4 : random.nextInt(Math.max(1, limit)); }

    void calls(int many) {
      for (int i = 0; i < many && !differs && calls < 500; i++) oneCall();
    }

    void oneCall() {
      int modules = model.modules.size();
      int governors = model.governors.size();
      int m = near(modules);
      int g = near(governors);
      Model.Made made = m >= 0 && m < modules ? model.modules.get(m) : null;
      Model.Gov gov = g >= 0 && g < governors ? model.governors.get(g) : null;
      Model.Made of = gov == null ? null : gov.made;
      switch (random.nextInt(30)) {
        case 0: { int w = near(8); check("module(" + m + "," + w + ")", mill.module(m, w), model.module(m, w)); break; }
        case 1: { int i = near(made == null ? 3 : made.parts.size()); check("part(" + m + "," + i + ")", mill.part(m, i), model.part(m, i)); break; }
        case 2: check("governor(" + m + ")", mill.governor(m), model.governor(m)); break;
        case 3: case 4: case 5: case 6: {
          int i = near(of == null ? 4 : of.inputs.size());
          boolean given = random.nextInt(4) != 0;
          int v = random.nextInt(20) == 0 ? random.nextInt() : random.nextInt(10) == 0 ? 1000000000 - random.nextInt(3) : random.nextInt(21) - 10;
          check("give(" + g + "," + i + "," + given + "," + v + ")", mill.give(g, i, given, v), model.give(g, i, given, v));
          break;
        }
        case 7: case 8: case 9: case 10: case 11: check("beat(" + g + ")", mill.beat(g), model.beat(g)); allOf(g); seeBeat(gov); break;
        case 12: { int s = near(of == null ? 4 : of.signals.size()); check("present(" + g + "," + s + ")", mill.present(g, s), model.present(g, s)); break; }
        case 13: { int s = near(of == null ? 4 : of.signals.size()); check("value(" + g + "," + s + ")", mill.value(g, s), model.value(g, s)); break; }
        case 14: { int v = near(of == null ? 4 : of.variables.size()); check("variable(" + g + "," + v + ")", mill.variable(g, v), model.variable(g, v)); break; }
        case 15: { int i = near(of == null ? 4 : of.parts.size()); int w = near(5); check("wire(" + g + "," + i + "," + w + ")", mill.wire(g, i, w), model.wire(g, i, w)); break; }
        case 16: { int w = near(8); check("told(" + g + "," + w + ")", mill.told(g, w), model.told(g, w)); break; }
        case 17: { int k = near(of == null ? 4 : of.pauses); check("paused(" + g + "," + k + ")", mill.paused(g, k), model.paused(g, k)); break; }
        case 18: check("keep(" + g + ")", mill.keep(g), model.keep(g)); break;
        case 19: check("back(" + g + ")", mill.back(g), model.back(g)); allOf(g); break;
        case 20: { int h = near(governors); check("same(" + g + "," + h + ")", mill.same(g, h), model.same(g, h)); break; }
        case 21: check("search(" + m + ")", mill.search(m), model.search(m)); break;
        case 22: searched(m); break;
        case 23: { int s = near(made == null ? 4 : made.signals.size()); check("never(" + m + "," + s + ")", mill.never(m, s), model.never(m, s)); against(); break; }
        case 24: {
          int a = near(made == null ? 4 : made.signals.size());
          int b = near(made == null ? 4 : made.signals.size());
          check("always(" + m + "," + a + "," + b + ")", mill.always(m, a, b), model.always(m, a, b));
          against();
          break;
        }
        case 25: { int w = near(2); check("against(" + w + ")", mill.against(w), model.against(w)); break; }
        case 26: { int w = near(3); check("count(" + w + ")", mill.count(w), model.count(w)); break; }
        case 27: { int n = near(20); check("end(" + n + ")", mill.end(n), model.end(n)); break; }
        case 28: if (random.nextInt(40) == 0) check("clear()", mill.clear(), model.clear()); break;
        default: if (governors == 0) check("governor(" + m + ")", mill.governor(m), model.governor(m)); break;
      }
    }

    void against() {
      check("against(0)", mill.against(0), model.against(0));
      check("against(1)", mill.against(1), model.against(1));
    }

    /** Everything that can be asked of a governor; these calls are beyond the run's own. */
    void allOf(int g) {
      if (g < 0 || g >= model.governors.size()) return;
      int before = calls;
      Model.Made made = model.governors.get(g).made;
      for (int i = 0; i < made.parts.size(); i++) {
        for (int w = 0; w < 5; w++) check("wire(" + g + "," + i + "," + w + ")", mill.wire(g, i, w), model.wire(g, i, w));
      }
      for (int s = 0; s < made.signals.size(); s++) {
        check("present(" + g + "," + s + ")", mill.present(g, s), model.present(g, s));
        check("value(" + g + "," + s + ")", mill.value(g, s), model.value(g, s));
      }
      for (int v = 0; v < made.variables.size(); v++) check("variable(" + g + "," + v + ")", mill.variable(g, v), model.variable(g, v));
      for (int k = 0; k < made.pauses; k++) check("paused(" + g + "," + k + ")", mill.paused(g, k), model.paused(g, k));
      for (int w = 0; w < 8; w++) check("told(" + g + "," + w + ")", mill.told(g, w), model.told(g, w));
      calls = before;
    }

    void seeBeat(Model.Gov gov) {
      if (gov == null) return;
      see("beat " + gov.answer);
      if (gov.failure != 0) see("failure " + gov.failure);
    }

    void seeSearch(int m) {
      Model.Found found = model.found(m);
      if (found == null) {
        if (model.made(m) != null) see("beyond");
        return;
      }
      if (found.states.size() > 8) see("many states");
      if (!found.made.pres.isEmpty()) see("with pre");
      if (!found.made.ifs.isEmpty()) see("with ifs");
      if (!found.made.inputs.isEmpty()) see("with inputs");
      for (int s = 0; s < found.states.size(); s++) {
        if (model.classOf(m, s) != s) see("fewer classes");
        for (int to : found.next.get(s)) if (to < 0) see(to == -1 ? "ending move" : "stuck move");
      }
    }

    void searched(int m) {
      int due = model.search(m);
      int before = calls;
      seeSearch(m);
      check("search(" + m + ")", mill.search(m), due);
      int states = Math.max(due, 0);
      for (int s = -1; s <= states; s++) {
        check("classOf(" + m + "," + s + ")", mill.classOf(m, s), model.classOf(m, s));
        int length = model.way(m, s, -1);
        for (int i = -2; i <= Math.max(length, 0); i++) check("way(" + m + "," + s + "," + i + ")", mill.way(m, s, i), model.way(m, s, i));
        for (int move = -1; move <= 32; move++) {
          for (int w = -1; w <= 2; w++) check("move(" + m + "," + s + "," + move + "," + w + ")", mill.move(m, s, move, w), model.move(m, s, move, w));
        }
      }
      calls = before;
    }
  }

  /** Random texts, most of which compile. */
  private static final class Texts {
    final Random random;
    final List<String> signals = new ArrayList<>();
    final List<String> inputs = new ArrayList<>();
    final List<String> plain = new ArrayList<>();
    final List<String> numbered = new ArrayList<>();
    final List<String> asked = new ArrayList<>();
    final List<String> variables = new ArrayList<>();
    final List<String> traps = new ArrayList<>();
    /** What is still free to be given a number and used, so that few branches clash. */
    List<String> mine;
    int left;
    int trapNames;
    boolean sharing;
    /** Now and then names are told twice and signals are emitted as they may not be. */
    final boolean naughty;

    Texts(Random random) {
      this.random = random;
      naughty = random.nextInt(8) == 0;
    }

    boolean slips() { return naughty && random.nextInt(6) == 0; }

    String pick(List<String> of) { return of.get(random.nextInt(of.size())); }

    String module() {
      StringBuilder text = new StringBuilder();
      String[] kinds = {"one", "sum", "most"};
      int many = random.nextInt(7);
      if (random.nextInt(30) == 0) many = 17;
      for (int i = 0; i < many; i++) {
        String name = "" + (char) ('a' + (slips() ? random.nextInt(i + 1) : i));
        int role = random.nextInt(3);
        if (role == 0 && inputs.size() >= (random.nextInt(50) == 0 ? 5 : 3)) role = 1;
        boolean colon = random.nextInt(3) == 0;
        signals.add(name);
        if (role == 0) inputs.add(name); else if (colon) numbered.add(name); else plain.add(name);
        if (colon) asked.add(name);
        text.append(role == 0 ? "input " : role == 1 ? "output " : "signal ").append(name);
        if (colon) text.append(random.nextBoolean() ? ":" : " : ").append(kinds[random.nextInt(3)]);
        text.append(";").append(random.nextBoolean() ? " " : "");
      }
      many = random.nextInt(3) == 0 ? random.nextInt(random.nextInt(20) == 0 ? 9 : 4) : random.nextInt(3) / 2;
      for (int i = 0; i < many; i++) {
        String name = slips() && !signals.isEmpty() ? pick(signals) : "v" + (char) ('a' + i);
        variables.add(name);
        text.append("var ").append(name).append(":=").append(random.nextBoolean() ? "-" : "").append(number()).append("; ");
      }
      mine = variables;
      sharing = random.nextInt(3) == 0;
      left = 2 + random.nextInt(random.nextInt(4) == 0 ? 42 : 14);
      return text.append(seq(0)).toString();
    }

    String number() {
      int style = random.nextInt(12);
      return style == 0 ? "999999" : style == 1 ? "0" : style == 2 ? "001000" : "" + random.nextInt(12);
    }

    String seq(int depth) {
      StringBuilder text = new StringBuilder(part(depth));
      while (left > 0 && random.nextInt(5) < 2) text.append(random.nextBoolean() ? "; " : ";").append(part(depth));
      return text.toString();
    }

    /** A seq that surely does not end at once, most of the time. */
    String looped(int depth) {
      String seq = seq(depth);
      int style = random.nextInt(8);
      if (style == 0) return seq;
      return style < 4 ? seq + ";pause" : style < 6 ? "pause;" + seq : "pause; " + seq;
    }

    String part(int depth) {
      left--;
      boolean deep = depth > (left % 7 == 0 ? 17 : 7) || left <= 0;
      switch (random.nextInt(deep ? 9 : 22)) {
        case 0: return "nothing";
        case 1: case 2: return "pause";
        case 3: return random.nextInt(3) == 0 ? "halt" : "pause";
        case 4: case 5: return emit(depth);
        case 6: if (slips() && !numbered.isEmpty()) return "sustain " + pick(numbered);
          return plain.isEmpty() ? "pause" : "sustain " + pick(plain);
        case 7: return traps.isEmpty() ? "nothing" : "exit " + pick(traps);
        case 8: return signals.isEmpty() ? "pause" : "await " + (random.nextInt(3) == 0 ? "immediate " : "") + c(depth);
        case 9: return "loop " + looped(depth + 1) + " end";
        case 10: case 11: return signals.isEmpty() ? "pause"
            : "present " + c(depth + 1) + " then " + seq(depth + 1) + (random.nextBoolean() ? " else " + seq(depth + 1) : "") + " end";
        case 12: case 13: return signals.isEmpty() ? "pause"
            : (random.nextBoolean() ? "weak abort " : "abort ") + seq(depth + 1) + " when " + (random.nextInt(3) == 0 ? "immediate " : "") + c(depth + 1) + " end";
        case 14: return signals.isEmpty() ? "pause" : "suspend " + seq(depth + 1) + " when " + c(depth + 1) + " end";
        case 15: return signals.isEmpty() ? "pause" : "every " + (random.nextInt(3) == 0 ? "immediate " : "") + c(depth + 1) + " do " + seq(depth + 1) + " end";
        case 16: case 17: {
          String name = slips() && !traps.isEmpty() ? pick(traps) : "t" + (char) ('a' + trapNames++ % 26);
          traps.add(name);
          String text = "trap " + name + " in " + seq(depth + 1) + " end";
          traps.remove(name);
          return text;
        }
        case 18: return "if " + sum(depth + 1) + relation() + sum(depth + 1) + " then " + seq(depth + 1) + (random.nextBoolean() ? " else " + seq(depth + 1) : "") + " end";
        case 19: return mine.isEmpty() ? "pause" : pick(mine) + ":=" + sum(depth);
        default: return branches(depth);
      }
    }

    String branches(int depth) {
      int many = random.nextInt(40) == 0 ? 9 : 1 + random.nextInt(random.nextInt(10) == 0 ? 6 : 3);
      List<String> all = mine;
      StringBuilder text = new StringBuilder("[ ");
      for (int i = 0; i < many; i++) {
        if (!sharing) {
          mine = new ArrayList<>();
          for (int v = 0; v < all.size(); v++) if (v % many == i) mine.add(all.get(v));
        }
        text.append(i == 0 ? "" : " || ").append(seq(depth + 1));
      }
      mine = all;
      return text.append(" ]").toString();
    }

    String emit(int depth) {
      if (slips() && !signals.isEmpty()) return "emit " + pick(signals) + (random.nextBoolean() ? "(" + sum(depth + 1) + ")" : "");
      boolean withNumber = !numbered.isEmpty() && (plain.isEmpty() || random.nextBoolean());
      if (withNumber) return "emit " + pick(numbered) + "(" + sum(depth + 1) + ")";
      return plain.isEmpty() ? "nothing" : "emit " + pick(plain);
    }

    String relation() {
      String[] all = {" = ", "!=", "<", " <= ", ">", ">="};
      return all[random.nextInt(6)];
    }

    String c(int depth) {
      int style = random.nextInt(depth > 15 ? 5 : 10);
      if (style < 4) return pick(signals);
      if (style < 5) return "pre " + pick(signals);
      if (style < 6) return "not " + c(depth + 1);
      if (style < 7) return "(" + c(depth + 1) + ")";
      if (style < 9) return c(depth + 2) + " and " + c(depth + 2);
      return c(depth + 2) + " or " + c(depth + 2);
    }

    String sum(int depth) {
      int style = random.nextInt(depth > 15 ? 5 : 11);
      if (style < 2) return number();
      if (style < 4) return mine.isEmpty() ? number() : pick(mine);
      if (style < 5) return asked.isEmpty() ? number() : "?" + pick(asked);
      if (style < 6) return "-" + sum(depth + 1);
      if (style < 7) return "(" + sum(depth + 1) + ")";
      String[] signs = {"+", "-", "*", "/", "%", " * "};
      return sum(depth + 2) + signs[random.nextInt(6)] + sum(depth + 2);
    }

    static final String[] BITS = {"input", "output", "signal", "one", "sum", "most", "var", "nothing", "pause", "halt", "emit",
      "sustain", "loop", "end", "present", "then", "else", "await", "immediate", "abort", "weak", "when", "suspend", "every", "do",
      "trap", "in", "exit", "if", "and", "or", "not", "pre", ";", ",", ":", "(", ")", "[", "]", "||", "|", ":=", "?", "+", "-", "*",
      "/", "%", "=", "!=", "!", "<", "<=", ">", ">=", ".", "a", "b", "va", "ta", "zz", "abcdefghij", "abcdefghijk", "1", "123456",
      "1234567", "\n", "\t", "A", "12ab", "\u00e9", "\0"};

    String spoiled(String text) {
      StringBuilder spoil = new StringBuilder(text);
      int times = 1 + random.nextInt(2);
      for (int i = 0; i < times; i++) {
        int at = random.nextInt(spoil.length() + 1);
        int style = random.nextInt(5);
        if (style < 3) {
          while (at > 0 && spoil.charAt(at - 1) != ' ' && spoil.charAt(at - 1) != ';' && random.nextInt(20) != 0) at--;
        }
        if (style == 0 || style == 3) spoil.insert(at, (style == 0 ? " " : "") + BITS[random.nextInt(BITS.length)] + (style == 0 ? " " : ""));
        else if (style == 1) {
          int stop = at;
          while (stop < spoil.length() && spoil.charAt(stop) != ' ' && spoil.charAt(stop) != ';') stop++;
          spoil.replace(at, stop, BITS[random.nextInt(BITS.length)]);
        } else if (style == 2) {
          int stop = Math.min(spoil.length(), at + 1 + random.nextInt(6));
          spoil.delete(at, stop);
        } else spoil.setLength(at);
      }
      return spoil.toString();
    }
  }

  /** The document, as plainly as it can be written down. */
  private static final class Model {
    static final int BAD = -1, STATE = -2, FULL = -3, BEYOND = -4, NONE = -1, NO_SUCH = -9;
    static final Set<String> KEYS = new TreeSet<>(Arrays.asList(("input output signal one sum most var nothing pause halt emit sustain loop end "
        + "present then else await immediate abort weak when suspend every do trap in exit if and or not pre").split(" ")));
    static final List<String> SIGNS = Arrays.asList("||", ":=", "!=", "<=", ">=", ";", ",", ":", "(", ")", "[", "]", "?", "+", "-", "*", "/", "%", "=", "<", ">");

    final StringBuilder tape = new StringBuilder();
    final List<Made> modules = new ArrayList<>();
    final List<Gov> governors = new ArrayList<>();
    int fault;
    int againstState = NONE, againstMove = NONE;

    int feed(int[] five) {
      if (tape.length() > 780) return FULL;
      for (int n : five) for (int shift = 24; shift >= 0; shift -= 8) tape.append((char) (n >> shift & 255));
      return tape.length();
    }

    int end(int n) {
      if (n < 0 || n > tape.length()) return BAD;
      int had = tape.length();
      tape.setLength(n);
      return had;
    }

    int compile() {
      if (modules.size() == 4) return FULL;
      String text = tape.toString();
      tape.setLength(0);
      try {
        modules.add(new Parser(text).module());
        fault = 0;
        return modules.size() - 1;
      } catch (Fault f) {
        fault = f.code;
        return -10 - f.place;
      }
    }

    Made made(int m) { return m >= 0 && m < modules.size() ? modules.get(m) : null; }

    Gov gov(int g) { return g >= 0 && g < governors.size() ? governors.get(g) : null; }

    int module(int m, int what) {
      Made a = made(m);
      if (a == null || what < 0 || what > 7) return BAD;
      int outputs = 0;
      for (Signal s : a.signals) if (s.role.equals("output")) outputs++;
      int[] all = {a.signals.size(), a.inputs.size(), outputs, a.variables.size(), a.parts.size(), a.pauses, a.ifs.size(), a.depth};
      return all[what];
    }

    int part(int m, int i) {
      Made a = made(m);
      return a == null || i < 0 || i >= a.parts.size() ? BAD : a.parts.get(i).place;
    }

    int governor(int m) {
      if (made(m) == null) return BAD;
      if (governors.size() == 8) return FULL;
      governors.add(new Gov(made(m), m));
      return governors.size() - 1;
    }

    int give(int g, int i, boolean given, int v) {
      Gov a = gov(g);
      if (a == null || i < 0 || i >= a.made.inputs.size() || Math.abs((long) v) > 1000000000L) return BAD;
      if (a.ended) return STATE;
      if (given) a.given.put(i, v); else a.given.remove(i);
      return 1;
    }

    int beat(int g) {
      Gov a = gov(g);
      if (a == null) return BAD;
      return a.ended ? STATE : a.react();
    }

    int present(int g, int s) {
      Gov a = gov(g);
      if (a == null || s < 0 || s >= a.made.signals.size()) return BAD;
      return a.shown[s] ? 1 : 0;
    }

    int value(int g, int s) {
      Gov a = gov(g);
      return a == null || s < 0 || s >= a.made.signals.size() ? 0 : (int) a.number[s];
    }

    int variable(int g, int v) {
      Gov a = gov(g);
      return a == null || v < 0 || v >= a.made.variables.size() ? 0 : (int) a.variable[v];
    }

    int wire(int g, int i, int what) {
      Gov a = gov(g);
      if (a == null || i < 0 || i >= a.made.parts.size() || what < 0 || what > 4) return BAD;
      return a.wires == null ? 0 : a.wires[i][what];
    }

    int told(int g, int what) {
      Gov a = gov(g);
      if (a == null || what < 0 || what > 7) return BAD;
      int set = 0;
      for (boolean b : a.set) if (b) set++;
      int[] all = {a.beats, set, a.ended ? 1 : 0, a.answer, a.failure, a.failedPart, a.number0, a.kept.size()};
      return all[what];
    }

    int paused(int g, int k) {
      Gov a = gov(g);
      return a == null || k < 0 || k >= a.made.pauses ? BAD : a.set[k] ? 1 : 0;
    }

    int keep(int g) {
      Gov a = gov(g);
      if (a == null) return BAD;
      if (a.kept.size() == 3) return FULL;
      Gov copy = new Gov(a.made, a.number0);
      copy.become(a);
      a.kept.add(copy);
      return a.kept.size();
    }

    int back(int g) {
      Gov a = gov(g);
      if (a == null) return BAD;
      if (a.kept.isEmpty()) return STATE;
      a.become(a.kept.remove(a.kept.size() - 1));
      a.given.clear();
      a.wires = null;
      a.answer = NONE;
      a.failure = 0;
      a.failedPart = NONE;
      Arrays.fill(a.shown, false);
      return a.kept.size();
    }

    int same(int g, int h) {
      Gov a = gov(g);
      Gov b = gov(h);
      if (a == null || b == null) return BAD;
      if (a.made != b.made) return STATE;
      boolean alike = Arrays.equals(a.set, b.set) && a.ended == b.ended && (a.beats == 0) == (b.beats == 0)
          && Arrays.equals(a.before, b.before) && Arrays.equals(a.number, b.number) && Arrays.equals(a.variable, b.variable);
      return alike ? 1 : 0;
    }

    Found found(int m) {
      Made a = made(m);
      if (a == null) return null;
      if (a.found == null) a.found = new Found(a);
      return a.found.beyond ? null : a.found;
    }

    int search(int m) {
      if (made(m) == null) return BAD;
      Found f = found(m);
      return f == null ? BEYOND : f.states.size();
    }

    int move(int m, int s, int move, int what) {
      Found f = found(m);
      if (f == null || s < 0 || s >= f.states.size() || move < 0 || move >= f.moves || what < 0 || what > 1) return NO_SUCH;
      return what == 0 ? f.next.get(s)[move] : f.shown.get(s)[move];
    }

    int classOf(int m, int s) {
      Found f = found(m);
      if (f == null || s < 0 || s >= f.states.size()) return NO_SUCH;
      for (int t = 0; t < s; t++) if (f.alike[t][s]) return t;
      return s;
    }

    int way(int m, int s, int i) {
      Found f = found(m);
      if (f == null || s < 0 || s >= f.states.size()) return NO_SUCH;
      List<Integer> way = f.ways.get(s);
      if (i == NONE) return way.size();
      return i < 0 || i >= way.size() ? NO_SUCH : way.get(i);
    }

    int never(int m, int s) {
      Found f = found(m);
      if (f == null || s < 0 || s >= f.made.signals.size()) return NO_SUCH;
      return judge(f, s, NONE);
    }

    int always(int m, int a, int b) {
      Found f = found(m);
      if (f == null || a < 0 || a >= f.made.signals.size() || b < 0 || b >= f.made.signals.size()) return NO_SUCH;
      return judge(f, a, b);
    }

    int judge(Found f, int a, int b) {
      for (int s = 0; s < f.states.size(); s++) {
        for (int move = 0; move < f.moves; move++) {
          int shown = f.shown.get(s)[move];
          if ((shown >> a & 1) == 1 && (b == NONE || (shown >> b & 1) == 0)) {
            againstState = s;
            againstMove = move;
            return 0;
          }
        }
      }
      return 1;
    }

    int against(int what) { return what == 0 ? againstState : what == 1 ? againstMove : BAD; }

    int count(int what) { return what == 0 ? modules.size() : what == 1 ? governors.size() : what == 2 ? tape.length() : BAD; }

    int clear() {
      int had = modules.size();
      modules.clear();
      governors.clear();
      return had;
    }

    static final class Fault extends Exception {
      private static final long serialVersionUID = 1;
      final int code;
      final int place;
      Fault(int code, int place) { this.code = code; this.place = place; }
    }

    static final class Failure extends Exception {
      private static final long serialVersionUID = 1;
      final int code;
      Failure(int code) { this.code = code; }
    }

    static final class Signal {
      final String name, role;
      String mix;
      final List<Node> emits = new ArrayList<>();
      Signal(String name, String role) { this.name = name; this.role = role; }
    }

    static final class TextPart {
      final int place;
      String what;
      Node node;
      int late;
      int target;
      Sum sum, other;
      String relation;
      TextPart(int place) { this.place = place; }
    }

    static final class Made {
      final List<Signal> signals = new ArrayList<>();
      final List<Integer> inputs = new ArrayList<>();
      final List<String> variables = new ArrayList<>();
      final List<Integer> begin = new ArrayList<>();
      final List<TextPart> parts = new ArrayList<>();
      final List<TextPart> ifs = new ArrayList<>();
      final Set<Integer> pres = new TreeSet<>();
      int pauses, depth;
      Node root;
      Found found;
    }

    /** What c looks at: AND, OR, NOT of two or one, a signal, a signal before, or an if. */
    static final class C {
      final char what;
      final C a, b;
      final int of;
      C(char what, C a, C b, int of) { this.what = what; this.a = a; this.b = b; this.of = of; }

      int truth(World w) {
        switch (what) {
          case '&': return and(a.truth(w), b.truth(w));
          case '|': return or(a.truth(w), b.truth(w));
          case '!': return not(a.truth(w));
          case 's': return w.signal[of];
          case 'p': return w.before[of] ? 1 : 0;
          default: return w.so[of] ? 1 : 0;
        }
      }
    }

    static final class Sum {
      final char what;
      final Sum a, b;
      final int of;
      Sum(char what, Sum a, Sum b, int of) { this.what = what; this.a = a; this.b = b; this.of = of; }

      long work(long[] numbers, long[] variables) throws Failure {
        if (what == 'n') return of;
        if (what == 'v') return variables[of];
        if (what == '?') return numbers[of];
        long left = a.work(numbers, variables);
        if (what == '_') return -left;
        long right = b.work(numbers, variables);
        if ((what == '/' || what == '%') && right == 0) throw new Failure(1);
        long all = what == '+' ? left + right : what == '-' ? left - right : what == '*' ? left * right : what == '/' ? left / right : left % right;
        return ranged(all);
      }
    }

    static long ranged(long n) throws Failure {
      if (Math.abs(n) > 1000000000L) throw new Failure(2);
      return n;
    }

    static int not(int a) { return a == 2 ? 2 : 1 - a; }
    static int and(int a, int b) { return a == 0 || b == 0 ? 0 : a == 1 && b == 1 ? 1 : 2; }
    static int or(int a, int b) { return not(and(not(a), not(b))); }

    static final class Node {
      final String kind;
      final Node[] kids;
      C c;
      int code;
      final Set<Integer> pauses = new TreeSet<>();
      int go, res, susp, kill;
      int[] k = new int[24];

      Node(String kind, Node... kids) {
        this.kind = kind;
        this.kids = kids;
        for (Node kid : kids) pauses.addAll(kid.pauses);
      }

      Set<Integer> atOnce() {
        Set<Integer> all = new TreeSet<>();
        switch (kind) {
          case "nothing": case "emit": all.add(0); break;
          case "pause": all.add(1); break;
          case "exit": all.add(code); break;
          case "present": for (Node kid : kids) all.addAll(kid.atOnce()); if (kids.length == 1) all.add(0); break;
          case "seq":
            all.add(0);
            for (Node kid : kids) if (all.remove(0)) all.addAll(kid.atOnce());
            break;
          case "loop": all.addAll(kids[0].atOnce()); all.remove(0); break;
          case "suspend": all.addAll(kids[0].atOnce()); break;
          case "par":
            all.addAll(kids[0].atOnce());
            for (int i = 1; i < kids.length; i++) {
              Set<Integer> more = new TreeSet<>();
              for (int x : all) for (int y : kids[i].atOnce()) more.add(Math.max(x, y));
              all = more;
            }
            break;
          default: for (int x : kids[0].atOnce()) all.add(x == 2 ? 0 : x > 2 ? x - 1 : x);
        }
        return all;
      }

      boolean sel(World w) {
        for (int p : pauses) if (w.set[p]) return true;
        return false;
      }

      void forget() {
        go = res = susp = kill = 2;
        Arrays.fill(k, 2);
        for (Node kid : kids) kid.forget();
      }

      boolean knows() {
        if (go == 2 || res == 2 || susp == 2 || kill == 2) return false;
        for (int x : k) if (x == 2) return false;
        for (Node kid : kids) if (!kid.knows()) return false;
        return true;
      }

      /** One round of all equations of this part and those within it; whether something came to be known. */
      boolean round(World w) {
        int[] had = k.clone();
        int truth = c == null ? 0 : c.truth(w);
        int sel = sel(w) ? 1 : 0;
        boolean more = false;
        for (int i = 0; i < kids.length; i++) {
          Node kid = kids[i];
          int g = go, r = res, s = susp, l = kill;
          if (kind.equals("present")) g = and(go, i == 0 ? truth : not(truth));
          if (kind.equals("seq") && i > 0) g = kids[i - 1].k[0];
          if (kind.equals("loop")) g = or(go, kid.k[0]);
          if (kind.equals("suspend")) {
            r = and(and(res, sel), not(truth));
            s = or(susp, and(and(res, sel), truth));
          }
          if (kind.equals("trap")) l = or(kill, kid.k[2]);
          if (g != kid.go || r != kid.res || s != kid.susp || l != kid.kill) more = true;
          kid.go = g;
          kid.res = r;
          kid.susp = s;
          kid.kill = l;
          more |= kid.round(w);
        }
        for (int n = 0; n < k.length; n++) k[n] = wire(n, w, truth, sel);
        return more || !Arrays.equals(had, k);
      }

      int wire(int n, World w, int truth, int sel) {
        switch (kind) {
          case "nothing": case "emit": return n == 0 ? go : 0;
          case "exit": return n == code ? go : 0;
          case "pause": return n == 1 ? go : n == 0 ? and(res, sel) : 0;
          case "present": {
            int all = kids[0].k[n];
            if (kids.length == 2) all = or(all, kids[1].k[n]);
            else if (n == 0) all = or(all, and(go, not(truth)));
            return all;
          }
          case "seq": {
            if (n == 0) return kids[kids.length - 1].k[0];
            int all = 0;
            for (Node kid : kids) all = or(all, kid.k[n]);
            return all;
          }
          case "loop": return n == 0 ? 0 : kids[0].k[n];
          case "suspend": return n == 1 ? or(kids[0].k[1], and(and(res, sel), truth)) : kids[0].k[n];
          case "par": {
            int any = 0;
            int all = 1;
            for (Node kid : kids) {
              int reached = and(and(sel, res), kid.sel(w) ? 0 : 1);
              for (int i = 0; i <= n; i++) reached = or(reached, kid.k[i]);
              any = or(any, kid.k[n]);
              all = and(all, reached);
            }
            return and(any, all);
          }
          default:
            if (n == 0) return or(kids[0].k[0], kids[0].k[2]);
            return n == 1 ? kids[0].k[1] : n + 1 < k.length ? kids[0].k[n + 1] : 0;
        }
      }

      void behind(boolean[] then, World w) {
        if (kind.equals("pause")) {
          int own = pauses.iterator().next();
          then[own] = kill == 0 && (go == 1 || susp == 1 && w.set[own]);
        }
        for (Node kid : kids) kid.behind(then, w);
      }
    }

    /** What a beat begins with, and what it comes to. */
    static final class World {
      final Made made;
      boolean[] set, before, so;
      boolean first, stuck, ends;
      int[] signal;
      boolean[] then;

      World(Made made) { this.made = made; }

      void react(boolean[] given) {
        signal = new int[made.signals.size()];
        Arrays.fill(signal, 2);
        made.root.forget();
        made.root.go = first ? 1 : 0;
        made.root.res = first ? 0 : 1;
        made.root.susp = 0;
        made.root.kill = 0;
        boolean more = true;
        while (more) {
          more = false;
          for (int s = 0; s < signal.length; s++) {
            int truth = 0;
            if (made.inputs.contains(s)) truth = given[made.inputs.indexOf(s)] ? 1 : 0;
            for (Node emit : made.signals.get(s).emits) truth = or(truth, emit.go);
            if (truth != signal[s]) more = true;
            signal[s] = truth;
          }
          more |= made.root.round(this);
        }
        stuck = !made.root.knows();
        for (int s : signal) stuck |= s == 2;
        ends = made.root.k[0] == 1;
        then = new boolean[made.pauses];
        made.root.behind(then, this);
      }
    }

    static final class Gov {
      final Made made;
      final int number0;
      boolean[] set, before, shown;
      long[] number, variable;
      int beats, answer = NONE, failure, failedPart = NONE;
      boolean ended;
      final Map<Integer, Integer> given = new HashMap<>();
      final List<Gov> kept = new ArrayList<>();
      int[][] wires;

      Gov(Made made, int number0) {
        this.made = made;
        this.number0 = number0;
        set = new boolean[made.pauses];
        before = new boolean[made.signals.size()];
        shown = new boolean[made.signals.size()];
        number = new long[made.signals.size()];
        variable = new long[made.variables.size()];
        for (int v = 0; v < variable.length; v++) variable[v] = made.begin.get(v);
      }

      void become(Gov a) {
        set = a.set.clone();
        before = a.before.clone();
        number = a.number.clone();
        variable = a.variable.clone();
        beats = a.beats;
        ended = a.ended;
      }

      int react() {
        World w = new World(made);
        w.set = set;
        w.before = before;
        w.first = beats == 0;
        w.so = new boolean[made.ifs.size()];
        int[] ifFailure = new int[made.ifs.size()];
        for (int i = 0; i < w.so.length; i++) {
          TextPart p = made.ifs.get(i);
          try {
            long a = p.sum.work(number, variable);
            long b = p.other.work(number, variable);
            int sign = Long.compare(a, b);
            w.so[i] = p.relation.equals("=") ? sign == 0 : p.relation.equals("!=") ? sign != 0 : p.relation.equals("<") ? sign < 0
                : p.relation.equals("<=") ? sign <= 0 : p.relation.equals(">") ? sign > 0 : sign >= 0;
          } catch (Failure f) {
            ifFailure[i] = f.code;
          }
        }
        boolean[] isGiven = new boolean[made.inputs.size()];
        for (int i : given.keySet()) isGiven[i] = true;
        w.react(isGiven);
        wires = new int[made.parts.size()][];
        for (int i = 0; i < wires.length; i++) {
          Node n = made.parts.get(i).node;
          wires[i] = new int[] {n.go, n.sel(w) ? 1 : 0, n.k[0], n.k[1], n.k[2]};
        }
        failure = 0;
        failedPart = NONE;
        Arrays.fill(shown, false);
        answer = w.stuck ? 3 : work(w, ifFailure);
        given.clear();
        return answer;
      }

      int work(World w, int[] ifFailure) {
        long[] numbers = number.clone();
        long[] variables = variable.clone();
        for (int i : given.keySet()) {
          int s = made.inputs.get(i);
          if (made.signals.get(s).mix != null) numbers[s] = given.get(i);
        }
        boolean[] emitted = new boolean[numbers.length];
        for (int i = 0; i < made.parts.size(); i++) {
          TextPart p = made.parts.get(i);
          if (p.node.go != 1) continue;
          try {
            if (p.what.equals("if") && ifFailure[p.target] != 0) throw new Failure(ifFailure[p.target]);
            if (p.what.equals(":=")) variables[p.target] = p.sum.work(numbers, variables);
            if (p.what.equals("emit") && p.sum != null) {
              int s = p.target;
              long n = p.sum.work(numbers, variables);
              String mix = made.signals.get(s).mix;
              if (emitted[s] && mix.equals("one")) throw new Failure(3);
              if (emitted[s]) n = ranged(mix.equals("sum") ? n + numbers[s] : Math.max(n, numbers[s]));
              numbers[s] = n;
              emitted[s] = true;
            }
          } catch (Failure f) {
            failure = f.code;
            failedPart = i;
            return 2;
          }
        }
        for (int s = 0; s < shown.length; s++) shown[s] = w.signal[s] == 1;
        before = shown.clone();
        set = w.then;
        number = numbers;
        variable = variables;
        beats++;
        ended = w.ends;
        return ended ? 1 : 0;
      }
    }

    static final class Found {
      final Made made;
      boolean beyond;
      int moves;
      final List<String> states = new ArrayList<>();
      final List<World> worlds = new ArrayList<>();
      final List<List<Integer>> ways = new ArrayList<>();
      final List<int[]> next = new ArrayList<>();
      final List<int[]> shown = new ArrayList<>();
      boolean[][] alike;

      Found(Made made) {
        this.made = made;
        int free = made.inputs.size() + made.ifs.size();
        beyond = free > 5;
        if (beyond) return;
        moves = 1 << free;
        World start = new World(made);
        start.first = true;
        start.set = new boolean[made.pauses];
        start.before = new boolean[made.signals.size()];
        add("first", start, new ArrayList<>());
        for (int s = 0; s < states.size() && !beyond; s++) explore(s);
        if (!beyond) strike();
      }

      void add(String name, World w, List<Integer> way) {
        states.add(name);
        worlds.add(w);
        ways.add(way);
      }

      void explore(int s) {
        int[] to = new int[moves];
        int[] shows = new int[moves];
        for (int move = 0; move < moves && !beyond; move++) {
          World w = worlds.get(s);
          boolean[] given = new boolean[made.inputs.size()];
          for (int i = 0; i < given.length; i++) given[i] = (move >> i & 1) == 1;
          w.so = new boolean[made.ifs.size()];
          for (int i = 0; i < w.so.length; i++) w.so[i] = (move >> given.length + i & 1) == 1;
          w.react(given);
          if (w.stuck) {
            to[move] = STATE;
            continue;
          }
          for (int i = 0; i < w.signal.length; i++) shows[move] |= w.signal[i] << i;
          to[move] = w.ends ? NONE : reach(w, s, move);
        }
        next.add(to);
        shown.add(shows);
      }

      int reach(World w, int s, int move) {
        World then = new World(made);
        then.set = w.then.clone();
        then.before = new boolean[made.signals.size()];
        for (int i : made.pres) then.before[i] = w.signal[i] == 1;
        String name = Arrays.toString(then.set) + Arrays.toString(then.before);
        int at = states.indexOf(name);
        if (at >= 0) return at;
        if (states.size() == 48) {
          beyond = true;
          return 0;
        }
        List<Integer> way = new ArrayList<>(ways.get(s));
        way.add(move);
        add(name, then, way);
        return states.size() - 1;
      }

      void strike() {
        int n = states.size();
        int outputs = 0;
        for (int i = 0; i < made.signals.size(); i++) if (made.signals.get(i).role.equals("output")) outputs |= 1 << i;
        alike = new boolean[n][n];
        for (boolean[] row : alike) Arrays.fill(row, true);
        boolean more = true;
        while (more) {
          more = false;
          for (int a = 0; a < n; a++) for (int b = 0; b < n; b++) {
            if (!alike[a][b]) continue;
            for (int move = 0; move < moves; move++) {
              int x = next.get(a)[move];
              int y = next.get(b)[move];
              boolean agrees = ((shown.get(a)[move] ^ shown.get(b)[move]) & outputs) == 0 && (x < 0 || y < 0 ? x == y : alike[x][y]);
              if (!agrees) {
                alike[a][b] = false;
                more = true;
              }
            }
          }
        }
      }
    }

    static final class Parser {
      final String text;
      final Made made = new Made();
      int at;
      String token;
      int place;
      final List<String> opened = new ArrayList<>();
      final List<String> traps = new ArrayList<>();
      int begun, counted;
      Set<Integer> given = new TreeSet<>(), used = new TreeSet<>();

      Parser(String text) { this.text = text; }

      /** Takes the token and reads the one behind it. */
      void take() throws Fault {
        while (at < text.length() && (text.charAt(at) == ' ' || text.charAt(at) == '\n')) at++;
        place = at;
        if (at == text.length()) {
          token = "";
          return;
        }
        int stop = at;
        while (stop < text.length() && text.charAt(stop) >= 'a' && text.charAt(stop) <= 'z') stop++;
        if (stop > at + 10) throw new Fault(1, at);
        if (stop == at) {
          while (stop < text.length() && text.charAt(stop) >= '0' && text.charAt(stop) <= '9') stop++;
          if (stop > at + 6) throw new Fault(1, at);
        }
        if (stop == at) {
          for (String sign : SIGNS) if (stop == at && text.startsWith(sign, at)) stop = at + sign.length();
        }
        if (stop == at) throw new Fault(1, at);
        token = text.substring(at, stop);
        at = stop;
      }

      boolean isName() { return !token.isEmpty() && Character.isLetter(token.charAt(0)) && !KEYS.contains(token); }
      boolean isNumber() { return !token.isEmpty() && Character.isDigit(token.charAt(0)); }

      void need(String wanted) throws Fault {
        if (!token.equals(wanted)) throw new Fault(2, place);
        take();
      }

      boolean may(String wanted) throws Fault {
        if (!token.equals(wanted)) return false;
        take();
        return true;
      }

      void open() throws Fault {
        if (opened.size() == 15) throw new Fault(6, place);
        opened.add(token);
      }

      void close() { opened.remove(opened.size() - 1); }

      int signal(String name) {
        for (int i = 0; i < made.signals.size(); i++) if (made.signals.get(i).name.equals(name)) return i;
        return -1;
      }

      Made module() throws Fault {
        take();
        while (Arrays.asList("input", "output", "signal", "var").contains(token)) told();
        made.root = seq(1);
        if (!token.isEmpty()) throw new Fault(2, place);
        for (TextPart p : made.parts) if (p.late != 0) throw new Fault(p.late, p.place);
        made.pauses = counted;
        return made;
      }

      void told() throws Fault {
        String role = token;
        take();
        if (!isName()) throw new Fault(2, place);
        if (signal(token) >= 0 || made.variables.contains(token)) throw new Fault(3, place);
        if (role.equals("var")) {
          if (made.variables.size() == 6) throw new Fault(6, place);
          made.variables.add(token);
          take();
          need(":=");
          boolean minus = may("-");
          if (!isNumber()) throw new Fault(2, place);
          made.begin.add(Integer.parseInt(token) * (minus ? -1 : 1));
          take();
        } else {
          if (made.signals.size() == 16 || role.equals("input") && made.inputs.size() == 4) throw new Fault(6, place);
          if (role.equals("input")) made.inputs.add(made.signals.size());
          Signal s = new Signal(token, role);
          made.signals.add(s);
          take();
          if (may(":")) {
            if (!Arrays.asList("one", "sum", "most").contains(token)) throw new Fault(2, place);
            s.mix = token;
            take();
          }
        }
        need(";");
      }

      Node seq(int depth) throws Fault {
        List<Node> all = new ArrayList<>();
        all.add(part(depth));
        while (may(";")) all.add(part(depth));
        return new Node("seq", all.toArray(new Node[0]));
      }

      static final List<String> BEGINS = Arrays.asList("nothing", "pause", "halt", "emit", "sustain", "loop", "present", "await", "abort",
          "weak", "suspend", "every", "trap", "exit", "if", "[");
      static final List<String> OPENS = Arrays.asList("loop", "present", "abort", "weak", "suspend", "every", "trap", "if", "[");
      static final List<String> ONE_PAUSE = Arrays.asList("pause", "halt", "sustain", "await", "abort", "weak");

      Node part(int depth) throws Fault {
        String what = token;
        if (isName()) {
          if (!made.variables.contains(what)) throw new Fault(4, place);
        } else if (!BEGINS.contains(what)) {
          throw new Fault(2, place);
        }
        begun += what.equals("every") ? 3 : ONE_PAUSE.contains(what) ? 1 : 0;
        if (made.parts.size() == 40 || begun > 24) throw new Fault(6, place);
        if (OPENS.contains(what)) open();
        TextPart p = new TextPart(place);
        p.what = isName() ? ":=" : what;
        made.parts.add(p);
        made.depth = Math.max(made.depth, depth);
        take();
        p.node = body(p, what, depth);
        if (OPENS.contains(what)) close();
        return p.node;
      }

      Node pause() {
        Node n = new Node("pause");
        n.pauses.add(counted++);
        return n;
      }

      Node exit(int code) {
        Node n = new Node("exit");
        n.code = code;
        return n;
      }

      Node when(String kind, C c, Node... kids) {
        Node n = new Node(kind, kids);
        n.c = c;
        return n;
      }

      Node emit(int s) {
        Node n = new Node("emit");
        made.signals.get(s).emits.add(n);
        return n;
      }

      /** loop pause; present c then exit X end end */
      Node watch(C c) { return new Node("loop", new Node("seq", pause(), when("present", c, exit(2)))); }

      /** loop present c then exit X end; pause end */
      Node watchNow(C c) { return new Node("loop", new Node("seq", when("present", c, exit(2)), pause())); }

      Node abort(Node p, C c) {
        return new Node("trap", new Node("par", new Node("seq", when("suspend", c, p), exit(2)), watch(c)));
      }

      Node body(TextPart p, String what, int depth) throws Fault {
        switch (what) {
          case "nothing": return new Node("nothing");
          case "pause": return pause();
          case "halt": return new Node("loop", pause());
          case "emit": return emitted(p);
          case "sustain": {
            int named = place;
            int s = emittable();
            take();
            if (made.signals.get(s).mix != null) throw new Fault(5, named);
            return new Node("loop", new Node("seq", emit(s), pause()));
          }
          case "loop": {
            Node seq = seq(depth + 1);
            if (seq.atOnce().contains(0)) p.late = 7;
            need("end");
            return new Node("loop", seq);
          }
          case "present": return choice(c(), depth);
          case "await": {
            boolean now = may("immediate");
            C c = c();
            return new Node("trap", now ? watchNow(c) : watch(c));
          }
          case "abort": case "weak": {
            if (what.equals("weak")) need("abort");
            Node seq = trapped("", depth);
            need("when");
            boolean now = may("immediate");
            C c = c();
            need("end");
            if (what.equals("weak")) return new Node("trap", new Node("par", new Node("seq", seq, exit(2)), now ? watchNow(c) : watch(c)));
            return now ? when("present", c, new Node("nothing"), abort(seq, c)) : abort(seq, c);
          }
          case "suspend": {
            Node seq = seq(depth + 1);
            need("when");
            C c = c();
            need("end");
            return when("suspend", c, seq);
          }
          case "every": {
            boolean now = may("immediate");
            C c = c();
            need("do");
            Node waits = new Node("trap", now ? watchNow(c) : watch(c));
            Node seq = trapped("", depth);
            need("end");
            return new Node("seq", waits, new Node("loop", abort(new Node("seq", seq, new Node("loop", pause())), c)));
          }
          case "trap": {
            String name = token;
            if (!isName()) throw new Fault(2, place);
            if (signal(name) >= 0 || made.variables.contains(name) || traps.contains(name)) throw new Fault(3, place);
            take();
            need("in");
            Node seq = trapped(name, depth);
            need("end");
            return new Node("trap", seq);
          }
          case "exit": {
            if (!isName()) throw new Fault(2, place);
            if (!traps.contains(token)) throw new Fault(4, place);
            int within = traps.size() - 1 - traps.lastIndexOf(token);
            take();
            return exit(2 + within);
          }
          case "if": {
            p.target = made.ifs.size();
            made.ifs.add(p);
            p.sum = sum();
            p.relation = token;
            if (!Arrays.asList("=", "!=", "<", "<=", ">", ">=").contains(token)) throw new Fault(2, place);
            take();
            p.other = sum();
            return choice(new C('i', null, null, p.target), depth);
          }
          case "[": return branches(p, depth);
          default:
            p.target = made.variables.indexOf(what);
            given.add(p.target);
            need(":=");
            p.sum = sum();
            return new Node("nothing");
        }
      }

      int emittable() throws Fault {
        if (!isName()) throw new Fault(2, place);
        int s = signal(token);
        if (s < 0 || made.signals.get(s).role.equals("input")) throw new Fault(4, place);
        return s;
      }

      Node emitted(TextPart p) throws Fault {
        int named = place;
        int s = emittable();
        take();
        if ((made.signals.get(s).mix != null) != token.equals("(")) throw new Fault(5, named);
        if (token.equals("(")) {
          open();
          take();
          p.target = s;
          p.sum = sum();
          need(")");
          close();
        }
        return emit(s);
      }

      Node choice(C c, int depth) throws Fault {
        need("then");
        Node first = seq(depth + 1);
        Node[] kids = {first};
        if (may("else")) kids = new Node[] {first, seq(depth + 1)};
        need("end");
        return when("present", c, kids);
      }

      Node trapped(String name, int depth) throws Fault {
        traps.add(name);
        Node seq = seq(depth + 1);
        traps.remove(traps.size() - 1);
        return seq;
      }

      Node branches(TextPart p, int depth) throws Fault {
        List<Node> all = new ArrayList<>();
        List<Set<Integer>> gives = new ArrayList<>(), uses = new ArrayList<>();
        Set<Integer> givenAround = given, usedAround = used;
        boolean more = true;
        while (more) {
          given = new TreeSet<>();
          used = new TreeSet<>();
          all.add(seq(depth + 1));
          gives.add(given);
          uses.add(used);
          if (all.size() == 8 && token.equals("||")) throw new Fault(6, place);
          more = may("||");
        }
        given = givenAround;
        used = usedAround;
        for (int i = 0; i < all.size(); i++) {
          for (int j = 0; j < all.size(); j++) {
            for (int v : gives.get(i)) if (i != j && (gives.get(j).contains(v) || uses.get(j).contains(v))) p.late = 8;
          }
          given.addAll(gives.get(i));
          used.addAll(uses.get(i));
        }
        need("]");
        return new Node("par", all.toArray(new Node[0]));
      }

      C c() throws Fault {
        C all = both();
        while (may("or")) all = new C('|', all, both(), 0);
        return all;
      }

      C both() throws Fault {
        C all = inner();
        while (may("and")) all = new C('&', all, inner(), 0);
        return all;
      }

      C inner() throws Fault {
        if (token.equals("not")) {
          open();
          take();
          C c = inner();
          close();
          return new C('!', c, null, 0);
        }
        if (token.equals("(")) {
          open();
          take();
          C c = c();
          need(")");
          close();
          return c;
        }
        boolean pre = may("pre");
        if (!isName()) throw new Fault(2, place);
        int s = signal(token);
        if (s < 0) throw new Fault(4, place);
        take();
        if (pre) made.pres.add(s);
        return new C(pre ? 'p' : 's', null, null, s);
      }

      Sum sum() throws Fault {
        Sum all = times();
        while (token.equals("+") || token.equals("-")) {
          char sign = token.charAt(0);
          take();
          all = new Sum(sign, all, times(), 0);
        }
        return all;
      }

      Sum times() throws Fault {
        Sum all = one();
        while (token.equals("*") || token.equals("/") || token.equals("%")) {
          char sign = token.charAt(0);
          take();
          all = new Sum(sign, all, one(), 0);
        }
        return all;
      }

      Sum one() throws Fault {
        if (isNumber()) {
          int n = Integer.parseInt(token);
          take();
          return new Sum('n', null, null, n);
        }
        if (isName()) {
          int v = made.variables.indexOf(token);
          if (v < 0) throw new Fault(4, place);
          used.add(v);
          take();
          return new Sum('v', null, null, v);
        }
        if (may("?")) {
          if (!isName()) throw new Fault(2, place);
          int s = signal(token);
          if (s < 0 || made.signals.get(s).mix == null) throw new Fault(4, place);
          take();
          return new Sum('?', null, null, s);
        }
        if (token.equals("-")) {
          open();
          take();
          Sum a = one();
          close();
          return new Sum('_', a, null, 0);
        }
        if (token.equals("(")) {
          open();
          take();
          Sum a = sum();
          need(")");
          close();
          return a;
        }
        throw new Fault(2, place);
      }
    }
  }
}
