/** The sentences of the document on texts (part 1 of its terms, promises 1 to 7) that name a boundary case, a test for each. */
public final class TextBoundaryTest extends Bench {
  private static final String[] KEYS = ("input output signal one sum most var nothing pause halt emit sustain loop end present then else "
    + "await immediate abort weak when suspend every do trap in exit if and or not pre").split(" ");
  /** All that fault 6 counts as open, as the text ahead of what is within and the text behind it; {@code <} marks where it opens. */
  private static final String[][] OPENING = {
    {"<loop ", "pause", " end"}, {"<present a then ", "pause", " end"}, {"present a then pause else ", "pause", " end"},
    {"<abort ", "pause", " when a end"}, {"<abort ", "pause", " when immediate a end"}, {"<weak abort ", "pause", " when a end"},
    {"<suspend ", "pause", " when a end"}, {"<every a do ", "pause", " end"}, {"<trap t in ", "pause", " end"},
    {"<if v=1 then ", "pause", " end"}, {"<[", "pause", "]"}, {"<[pause||", "pause", "]"},
    {"await <(", "a", ")"}, {"await <not ", "a", ""}, {"emit y<(", "1", ")"}, {"v:=<(", "1", ")"}, {"v:=<-", "1", ""}};
  private static final String TOLD = "input a;output x;output y:sum;var v:=0;";
  private static final String[] SIGNS = "; , : ( ) [ ] || := ? + - * / % = != < <= > >=".split(" ");
  /** What may begin a part, a c, a sum; a NAME is told by zz, a NUMBER by 7. */
  private static final String PART = " nothing pause halt emit sustain loop present await abort weak suspend every trap exit if [ zz ";
  private static final String CONDITION = " not zz pre ( ";
  private static final String SUM = " 7 zz ? - ( ";
  private static final String WORKING = " + - * / % ";

  public static void main(String[] args) {
    tape();
    tokens();
    grammar();
    names();
    tooMany();
    tooManyOpen();
    late();
    compiling();
    modules();
    finish(edges + " boundary sentences on texts hold");
  }

  private static void tape() {
    edge("Promise 1: no modules", () -> {
      BeatMill x = new BeatMill();
      due("count(0)", x.count(0), 0);
      due("module(0, 0)", x.module(0, 0), BeatMill.BAD);
      due("part(0, 0)", x.part(0, 0), BeatMill.BAD);
      due("governor(0)", x.governor(0), BeatMill.BAD);
      due("search(0)", x.search(0), BeatMill.BAD);
    });
    edge("Promise 1: no governors", () -> {
      BeatMill x = new BeatMill();
      due("count(1)", x.count(1), 0);
      due("beat(0)", x.beat(0), BeatMill.BAD);
      due("told(0, 0)", x.told(0, 0), BeatMill.BAD);
      due("same(0, 0)", x.same(0, 0), BeatMill.BAD);
    });
    edge("Promise 1: nothing on THE TAPE", () -> {
      BeatMill x = new BeatMill();
      due("count(2)", x.count(2), 0);
      due("end(1)", x.end(1), BeatMill.BAD);
      due("end(0)", x.end(0), 0);
      due("compile()", x.compile(), -10);
      due("fault()", x.fault(), 2);
    });
    edge("Promise 2: of each number the highest byte first", () -> {
      BeatMill x = new BeatMill();
      due("feed", x.feed('n' << 24 | 'o' << 16 | 't' << 8 | 'h', 'i' << 24 | 'n' << 16 | 'g' << 8 | ';', 0x68616c74, 0x3b202020, 0x70617573), 20);
      due("feed", x.feed(0x65202020, 0x20202020, 0x20202020, 0x20202020, 0x2020200a), 40);
      due("compile()", x.compile(), 0);
      due("part(0, 1)", x.part(0, 1), 8);
      due("part(0, 2)", x.part(0, 2), 16);
    });
    edge("Promise 2: a byte of 128 and more, and a number below 0, is fed as any other", () -> {
      BeatMill x = new BeatMill();
      write(x, "nothing");
      due("feed", x.feed(-1, MIN, MAX, 0, 1), 27);
      due("compile()", x.compile(), -17);
      due("fault()", x.fault(), 1);
    });
    edge("Promise 2: FULL: more than 800", () -> {
      BeatMill x = new BeatMill();
      for (int i = 1; i <= 40; i++) due("feed " + i, x.feed(0x20202020, 0x20202020, 0x20202020, 0x20202020, 0x20202020), 20 * i);
      due("feed 41", x.feed(0, 0, 0, 0, 0), BeatMill.FULL);
      due("count(2)", x.count(2), 800);
      due("end(781)", x.end(781), 800);
      due("feed to 801", x.feed(0, 0, 0, 0, 0), BeatMill.FULL);
      due("count(2), nothing of it came", x.count(2), 781);
      due("end(780)", x.end(780), 781);
      due("feed to 800", x.feed(0x20202020, 0x20202020, 0x20202020, 0x20202020, 0x20202023), 800);
      due("compile()", x.compile(), -10 - 799);
    });
    edge("Promise 3: BAD: too small, too large", () -> {
      BeatMill x = new BeatMill();
      write(x, "nothing;");
      for (int n : new int[] {-1, MIN, 9, 800, 801, MAX}) due("end(" + n + ")", x.end(n), BeatMill.BAD);
      due("count(2)", x.count(2), 8);
    });
    edge("Promise 3: THE TAPE keeps its first n bytes, all of them, none of them", () -> {
      BeatMill x = new BeatMill();
      write(x, "nothing;");
      due("end(8)", x.end(8), 8);
      due("end(7)", x.end(7), 8);
      due("compile()", x.compile(), 0);
      write(x, "nothing;");
      due("end(0)", x.end(0), 8);
      due("end(0)", x.end(0), 0);
      due("count(2)", x.count(2), 0);
    });
    edge("Terms 1: THE TAPE, places from 0", () -> {
      faulty("#", 0, 1);
      faulty(times(799, " ") + "#", 799, 1);
      faulty(times(800, " "), 800, 2);
      fine(times(793, "\n") + "nothing");
      fine("nothing" + times(793, " "));
      BeatMill x = made(times(789, " ") + "halt; pause");
      due("part(0, 0)", x.part(0, 0), 789);
      due("part(0, 1)", x.part(0, 1), 795);
    });
    edge("Terms 1: what stood on THE TAPE before is no part of a text", () -> {
      BeatMill x = made("nothing;nothing;halt");
      add(x, "nothing", 1);
      due("module(1, 4)", x.module(1, 4), 1);
      write(x, "if 1<=2");
      x.end(5);
      due("compile() of if 1<", x.compile(), -15);
      due("fault()", x.fault(), 2);
      write(x, "[nothing||");
      x.end(9);
      due("compile() of [nothing|", x.compile(), -18);
      due("fault()", x.fault(), 1);
      write(x, "if 12");
      x.end(4);
      due("compile() of if 1", x.compile(), -14);
    });
  }

  private static void tokens() {
    edge("Terms 1: blanks (32, 10); 1 no TOKEN: each byte by itself", () -> {
      for (int b = 0; b < 256; b++) {
        String text = String.valueOf((char) b);
        if (b == 32 || b == 10 || b == '[') faulty(text, 1, 2);
        else if (b >= 'a' && b <= 'z') faulty(text, 0, 4);
        else if (b >= '0' && b <= '9' || ";,:()]?+-*/%=<>".indexOf(b) >= 0) faulty(text, 0, 2);
        else faulty(text, 0, 1);
      }
    });
    edge("Terms 1: blanks between TOKENS, not within them", () -> {
      fine(" \n nothing \n ; \n\n nothing \n");
      fine("[nothing||nothing]");
      fine(TOLD + "if 1<2then v:=1end");
      faulty("noth ing", 0, 4);
      faulty("[nothing| |nothing]", 8, 1);
      faulty(TOLD + "v: =1", TOLD.length() + 1, 2);
      faulty("if 1! =2 then pause end", 4, 1);
      faulty("if 1< =2 then pause end", 6, 2);
      faulty("pause halt", 6, 2);
      faulty("pausehalt", 0, 4);
    });
    edge("Terms 1: each as long as may be", () -> {
      faulty("[nothing|||nothing]", 10, 1);
      faulty("[nothing||||nothing]", 10, 2);
      faulty("if 1==2 then pause end", 5, 2);
      faulty("if 1=>2 then pause end", 5, 2);
      faulty("if 1<>2 then pause end", 5, 2);
      faulty("if 1!==2 then pause end", 6, 2);
      faulty("output x:=1;pause", 8, 2);
      faulty("var v:1;pause", 5, 2);
      faulty("var v:==1;pause", 7, 2);
      faulty("var v:=1x;pause", 8, 2);
      faulty("loopx", 0, 4);
      faulty("loop9", 4, 2);
    });
    edge("Terms 1: WORDS (10 at most); 1 too long: its first byte", () -> {
      fine("input abcdefghij;nothing");
      faulty("input  abcdefghijk;nothing", 7, 1);
      faulty("input " + times(26, "z") + ";nothing", 6, 1);
      faulty(times(800, "a"), 0, 1);
      faulty(times(790, " ") + times(10, "z"), 790, 4);
      faulty(times(789, " ") + times(11, "z"), 789, 1);
      faulty("nothingnothing", 0, 1);
      fine("input abcdefghij;input abcdefghik;nothing");
      fine("input zzzzzzzzzz;input zzzzzzzzz;input a;input aa;nothing");
      faulty("input abcdefghij;input abcdefghij;nothing", 23, 3);
    });
    edge("Terms 1: NUMBERS (1 to 6 figures); 1 too long: its first byte", () -> {
      BeatMill x = run("var a:=0;var b:=999999;var c:=-999999;var d:=000007;var e:=-0;halt");
      int[] want = {0, 999999, -999999, 7, 0};
      for (int v = 0; v < 5; v++) due("variable(0, " + v + ")", x.variable(0, v), want[v]);
      faulty("var v:=1000000;nothing", 7, 1);
      faulty("var v:=-1000000;nothing", 8, 1);
      faulty("var v:=0000000;nothing", 7, 1);
      faulty(TOLD + "v:=1+1234567", TOLD.length() + 5, 1);
      faulty(times(800, "9"), 0, 1);
      faulty("var v:=;nothing", 7, 2);
    });
    edge("Terms 1: SIGNS: each that the grammar uses stands, and , nowhere", () -> {
      BeatMill x = run("input a;input b:one;output y:sum;output z:most;var v:=-1;var w:=0;"
        + "[v:=(1+?b-2)*3/1%5||if w=0 then w:=1 end;if w!=0 then w:=1 end;if w<0 then w:=1 end;if w<=0 then w:=1 end;if w>0 then w:=1 end;if w>=0 then w:=1 end]");
      due("ifs", x.module(0, 6), 6);
      beat(x, 0, 1, 0);
      due("v", x.variable(0, 0), -3);
      faulty(",", 0, 2);
      faulty("input a,nothing", 7, 2);
      faulty("nothing,", 7, 2);
      faulty(TOLD + "emit y(1,2)", TOLD.length() + 8, 2);
    });
    edge("Terms 1: the WORDS .. are KEYS, others are NAMES", () -> {
      for (String key : KEYS) {
        faulty("input " + key + ";nothing", 6, 2);
        fine("input " + key + "s;nothing");
        fine("input " + key.substring(0, key.length() - 1) + ";nothing");
        fine("var x" + key + ":=1;nothing");
      }
    });
    edge("Terms 1: a TOKEN is read when the one before has been taken", () -> {
      faulty("foo #", 0, 4);
      faulty("foo#", 0, 4);
      faulty("end#", 0, 2);
      faulty("nothing#", 7, 1);
      faulty("nothing pause#", 8, 2);
      faulty("input a;output a#", 15, 3);
      faulty("emit q#", 5, 4);
      faulty(TOLD + "emit y#", TOLD.length() + 6, 1);
      faulty(TOLD + "emit x#", TOLD.length() + 6, 1);
      faulty(TOLD + "sustain y#", TOLD.length() + 9, 1);
      faulty("loop nothing end#", 16, 1);
      faulty(times(16, "[") + "#", 15, 6);
      faulty(times(15, "[") + "#", 15, 1);
    });
  }

  private static void grammar() {
    edge("Terms 1: 2 a TOKEN that cannot stand there (or the end: the length)", () -> {
      String a = "input a ; ";
      String y = "output y : sum ; ";
      String v = "var v := 0 ; ";
      for (String told : new String[] {"input a", "input a : one", "output x : sum", "signal s : most", "var v := 1", "var v := - 1"}) {
        wanting("", told + " ; nothing", -1);
      }
      for (String part : new String[] {"nothing", "pause", "halt", "nothing ; halt ; pause", "nothing || pause || halt"}) wanting("", "[ " + part + " ]", -1);
      for (String part : new String[] {"emit x", "sustain x"}) wanting("output x ; ", "[ " + part + " ]", -1);
      wanting(y, "[ emit y ( 1 ) ]", 3);
      wanting(y + v, "[ emit y ( - v + ( 2 ) * ? y ) ]", 3);
      wanting("", "loop pause end", -1);
      wanting(a, "present a then nothing end", -1);
      wanting(a, "present not a and ( a or pre a ) then nothing else nothing end", -1);
      wanting(a, "[ await a ]", -1);
      wanting(a, "[ await immediate not not a ]", -1);
      wanting(a, "abort pause when a end", -1);
      wanting(a, "abort pause when immediate a end", -1);
      wanting(a, "weak abort pause when a end", -1);
      wanting(a, "weak abort pause when immediate a end", -1);
      wanting(a, "suspend pause when a end", -1);
      wanting(a, "every a do pause end", -1);
      wanting(a, "every immediate a do pause end", -1);
      wanting("", "trap t in exit t end", -1);
      wanting(v, "if v + 1 <= 2 * v then nothing end", -1);
      wanting(v, "if v = 1 then nothing else nothing end", -1);
      wanting(v, "[ v := 1 - v / 2 % 3 ]", -1);
    });
    edge("Terms 1: the grammar: at each place just what it tells can stand", () -> {
      stands("", PART + "input output signal var");
      for (String told : new String[] {"input", "output", "signal"}) {
        stands(told, "zz");
        stands(told + " n", ": ;");
        stands(told + " n :", "one sum most");
        stands(told + " n : most", ";");
        stands(told + " n ;", PART + "input output signal var");
      }
      stands("var", "zz");
      stands("var n", ":=");
      stands("var n :=", "- 7");
      stands("var n := -", "7");
      stands("var n := 1", ";");
      stands("var n := 1 ;", PART + "input output signal var");
    });
    edge("Terms 1: the grammar: seq, and the parts that hold no others", () -> {
      for (String part : new String[] {"nothing", "pause", "halt", "sustain x", "loop pause end", "[ pause ]", "emit y ( 1 )"}) stands(TOLD + part, ";");
      stands("nothing ;", PART);
      stands("emit", "zz");
      stands(TOLD + "emit y (", SUM);
      stands(TOLD + "emit y ( 1", WORKING + ")");
      stands("sustain", "zz");
      stands("exit", "zz");
      stands("trap t in exit t", "; end");
      stands(TOLD + "await", CONDITION + "immediate");
      stands(TOLD + "await immediate", CONDITION);
      stands(TOLD + "await a", "and or ;");
      stands(TOLD + "v", ":=");
      stands(TOLD + "v :=", SUM);
      stands(TOLD + "v := v", WORKING + ";");
    });
    edge("Terms 1: the grammar: parts that hold others", () -> {
      for (String head : new String[] {"loop", "[", "[ pause ||", "present a then", "present a then halt else", "abort", "weak abort", "suspend", "every a do", "trap t in", "if 1 = 1 then", "if 1 = 1 then halt else"}) {
        stands(TOLD + head, PART);
        stands(TOLD + head + " nothing ;", PART);
      }
      for (String open : new String[] {"loop", "every a do", "trap t in", "present a then halt else", "if 1 = 1 then halt else"}) stands(TOLD + open + " pause", "; end");
      for (String open : new String[] {"present a then", "if 1 = 1 then"}) stands(TOLD + open + " pause", "; else end");
      for (String open : new String[] {"[", "[ pause ||"}) stands(TOLD + open + " pause", "; || ]");
      for (String open : new String[] {"abort", "weak abort", "suspend"}) {
        stands(TOLD + open + " pause", "; when");
        stands(TOLD + open + " pause when", CONDITION + (open.equals("suspend") ? "" : "immediate"));
        stands(TOLD + open + " pause when a", "and or end");
      }
      stands("weak", "abort");
      stands(TOLD + "abort pause when immediate", CONDITION);
      stands(TOLD + "weak abort pause when immediate", CONDITION);
      stands(TOLD + "present", CONDITION);
      stands(TOLD + "present a", "and or then");
      stands(TOLD + "every", CONDITION + "immediate");
      stands(TOLD + "every immediate", CONDITION);
      stands(TOLD + "every a", "and or do");
      stands("trap", "zz");
      stands("trap t", "in");
      stands("if", SUM);
      stands("if 1", WORKING + "= != < <= > >=");
      for (String relation : "= != < <= > >=".split(" ")) stands("if 1 " + relation, SUM);
      stands("if 1 = 1", WORKING + "then");
    });
    edge("Terms 1: the grammar: c and sum", () -> {
      for (String head : new String[] {"not", "not not", "(", "a and", "a or", "a and not", "( a or"}) stands(TOLD + "await " + head, CONDITION);
      stands(TOLD + "await pre", "zz");
      for (String head : new String[] {"not a", "pre a", "a and a", "a or pre a", "( a )"}) stands(TOLD + "await " + head, "and or ;");
      for (String head : new String[] {"( a", "( a or not a", "( ( a )"}) stands(TOLD + "await " + head, "and or )");
      for (String head : new String[] {"-", "- -", "(", "1 +", "1 -", "1 *", "1 /", "1 %", "( 1 +"}) stands(TOLD + "v := " + head, SUM);
      stands(TOLD + "v := ?", "zz");
      for (String head : new String[] {"1", "- 1", "? y", "( 1 )", "1 + 1", "1 * v"}) stands(TOLD + "v := " + head, WORKING + ";");
      for (String head : new String[] {"( 1", "( 1 + v", "( ( 1 )", "( - ? y"}) stands(TOLD + "v := " + head, WORKING + ")");
    });
    edge("Terms 1: module: { told } seq: none told, nothing but told, told behind a part", () -> {
      fine("nothing");
      faulty("", 0, 2);
      faulty("input a;", 8, 2);
      faulty("nothing;var v:=0;nothing", 8, 2);
      faulty("nothing;signal s;nothing", 8, 2);
    });
    edge("Terms 1: what may stand once does not stand twice", () -> {
      faulty("input a:one:one;nothing", 11, 2);
      faulty("var v:=--1;nothing", 8, 2);
      faulty("input a;await immediate immediate a", 24, 2);
      faulty("input a;present a then nothing else nothing else nothing end", 44, 2);
      faulty("if 1=1 then nothing else nothing else nothing end", 33, 2);
      faulty("if 1=1=1 then nothing end", 6, 2);
      faulty("input a;await pre pre a", 18, 2);
      faulty("input a;weak weak abort pause when a end", 13, 2);
      faulty(";nothing", 0, 2);
      faulty("nothing;;nothing", 8, 2);
    });
    edge("Terms 1: what the grammar has not: suspend .. immediate, pre of more than a NAME, c in a sum, a sum in c", () -> {
      faulty("input a;suspend pause when immediate a end", 27, 2);
      faulty("input a;await pre (a)", 18, 2);
      faulty("input a;await pre not a", 18, 2);
      faulty(TOLD + "v:=not a", TOLD.length() + 3, 2);
      faulty(TOLD + "await 1", TOLD.length() + 6, 2);
      faulty(TOLD + "await ?y", TOLD.length() + 6, 2);
      faulty(TOLD + "await -a", TOLD.length() + 6, 2);
      faulty(TOLD + "v:=+1", TOLD.length() + 3, 2);
      faulty(TOLD + "v:=()", TOLD.length() + 4, 2);
      faulty(TOLD + "await ()", TOLD.length() + 7, 2);
      faulty("[]", 1, 2);
      faulty("loop end", 5, 2);
      faulty("loop pause;end", 11, 2);
      faulty("[pause||]", 8, 2);
    });
  }

  /** Each TOKEN of the text behind {@code ahead} by turns is the end, or a comma; but one, whose lack is another FAULT. */
  private static void wanting(String ahead, String text, int but) {
    fine(ahead + text);
    String[] tokens = text.split(" ");
    StringBuilder before = new StringBuilder(ahead);
    for (int i = 0; i < tokens.length; i++) {
      String rest = text.substring(before.length() - ahead.length() + tokens[i].length());
      if (i != but) {
        faulty(before + "," + rest, before.length(), 2);
        if (i > 0) faulty(before.substring(0, before.length() - 1), before.length() - 1, 2);
      }
      before.append(tokens[i]).append(' ');
    }
  }

  /** Of all TOKENS just those told can stand behind a text. */
  private static void stands(String ahead, String those) {
    for (String sign : SIGNS) standsIf(ahead, sign, (" " + those + " ").contains(" " + sign + " "));
    for (String key : KEYS) standsIf(ahead, key, (" " + those + " ").contains(" " + key + " "));
    standsIf(ahead, "zz", (" " + those + " ").contains(" zz "));
    standsIf(ahead, "7", (" " + those + " ").contains(" 7 "));
  }

  private static void standsIf(String ahead, String token, boolean can) {
    BeatMill x = new BeatMill();
    String before = ahead.isEmpty() ? "" : ahead + " ";
    write(x, before + token);
    int answer = x.compile();
    boolean refused = answer == -10 - before.length() && x.fault() == 2;
    due("whether [" + token + "] cannot stand behind [" + ahead + "]", refused ? 1 : 0, can ? 0 : 1);
  }

  private static void names() {
    String[] tells = {"input ", "output ", "signal ", "var "};
    edge("Terms 1: 3 a NAME that is to be told and is (signals, variables)", () -> {
      for (String one : tells) {
        for (String other : tells) {
          String first = one + "n" + (one.equals("var ") ? ":=1;" : ";");
          faulty(first + other + "n;nothing", first.length() + other.length(), 3);
        }
      }
    });
    edge("Terms 1: 3 of a trap also traps around it", () -> {
      for (String one : tells) {
        String first = one + "n" + (one.equals("var ") ? ":=1;" : ";");
        faulty(first + "trap n in nothing end", first.length() + 5, 3);
      }
      faulty("trap t in trap t in nothing end end", 15, 3);
      faulty("trap t in trap u in trap t in nothing end end end", 25, 3);
      fine("trap t in nothing end;trap t in nothing end");
      fine("[trap t in nothing end||trap t in nothing end]");
      for (char letter = 'a'; letter <= 'z'; letter++) fine("signal sig;abort trap " + letter + " in exit " + letter + " end when sig end");
    });
    edge("Terms 1: 4 a NAME that is not told, or not what is wanted: in c a signal", () -> {
      faulty(TOLD + "await q", TOLD.length() + 6, 4);
      faulty(TOLD + "await v", TOLD.length() + 6, 4);
      faulty(TOLD + "await pre v", TOLD.length() + 10, 4);
      faulty(TOLD + "trap t in await t end", TOLD.length() + 16, 4);
      fine(TOLD + "present a or x or y then nothing end");
    });
    edge("Terms 1: 4 behind emit, sustain an output or signal", () -> {
      faulty(TOLD + "emit a", TOLD.length() + 5, 4);
      faulty(TOLD + "emit v", TOLD.length() + 5, 4);
      faulty(TOLD + "emit q", TOLD.length() + 5, 4);
      faulty(TOLD + "sustain a", TOLD.length() + 8, 4);
      faulty(TOLD + "sustain v", TOLD.length() + 8, 4);
      faulty("input b:sum;emit b(1)", 17, 4);
      faulty("input b:sum;sustain b", 20, 4);
      fine("signal s;output o;emit s;emit o;sustain s");
    });
    edge("Terms 1: 4 behind exit a trap around", () -> {
      faulty("exit t", 5, 4);
      faulty("trap t in nothing end;exit t", 27, 4);
      faulty("trap t in exit u end", 15, 4);
      faulty("[trap t in pause end||exit t]", 27, 4);
      faulty(TOLD + "trap t in exit a end", TOLD.length() + 15, 4);
      faulty(TOLD + "trap t in exit v end", TOLD.length() + 15, 4);
      fine("trap t in trap u in exit t;exit u end;exit t end");
      for (char letter = 'a'; letter <= 'z'; letter++) faulty("signal sig;abort exit " + letter + " when sig end", 22, 4);
    });
    edge("Terms 1: 4 ahead of := and in a sum a variable", () -> {
      faulty(TOLD + "a:=1", TOLD.length(), 4);
      faulty(TOLD + "y:=1", TOLD.length(), 4);
      faulty(TOLD + "v:=y", TOLD.length() + 3, 4);
      faulty(TOLD + "v:=q", TOLD.length() + 3, 4);
      faulty(TOLD + "if a=1 then nothing end", TOLD.length() + 3, 4);
      faulty(TOLD + "emit y(y)", TOLD.length() + 7, 4);
      faulty("trap t in t:=1 end", 10, 4);
    });
    edge("Terms 1: 4 behind ? a signal with :", () -> {
      faulty(TOLD + "v:=?x", TOLD.length() + 4, 4);
      faulty(TOLD + "v:=?a", TOLD.length() + 4, 4);
      faulty(TOLD + "v:=?v", TOLD.length() + 4, 4);
      faulty(TOLD + "v:=?q", TOLD.length() + 4, 4);
      fine("input b:one;signal s:sum;output o:most;var v:=0;v:=?b+?s+?o");
    });
    edge("Terms 1: 4 a NAME that begins a part is this, whatever stands behind", () -> {
      for (String behind : new String[] {"", " ", ";", ":=", " foo", "#", "(", " end", "1"}) {
        faulty(TOLD + "q" + behind, TOLD.length(), 4);
        faulty(TOLD + "a" + behind, TOLD.length(), 4);
      }
      faulty(TOLD + "v", TOLD.length() + 1, 2);
      faulty(TOLD + "v=1", TOLD.length() + 1, 2);
    });
    edge("Terms 1: 5 emit of a signal with : without ( )", () -> {
      for (String behind : new String[] {"", " ", ";", "]", " end", "1", " foo", ":=", ")"}) faulty(TOLD + "emit y" + behind, TOLD.length() + 5, 5);
    });
    edge("Terms 1: 5 of one without : with ( )", () -> {
      for (String behind : new String[] {"(", "(1)", "( )", "(#", "(q)"}) faulty(TOLD + "emit x" + behind, TOLD.length() + 5, 5);
      faulty(TOLD + "emit x 1", TOLD.length() + 7, 2);
    });
    edge("Terms 1: 5 sustain of one with : (at the NAME)", () -> {
      for (String behind : new String[] {"", ";", "(1)", " end", " foo"}) faulty(TOLD + "sustain y" + behind, TOLD.length() + 8, 5);
      faulty(TOLD + "sustain x(1)", TOLD.length() + 9, 2);
    });
  }

  private static String signals(int many) {
    StringBuilder told = new StringBuilder();
    for (int i = 0; i < many; i++) told.append("signal s").append((char) ('a' + i)).append(';');
    return told.toString();
  }

  private static void tooMany() {
    edge("Terms 1: 6 the 17th signal (at its NAME)", () -> {
      fine(signals(16) + "nothing");
      for (String role : new String[] {"signal ", "output ", "input "}) {
        faulty(signals(16) + role + "z;nothing", signals(16).length() + role.length(), 6);
        faulty("input i;output o;" + signals(14) + role + "z;nothing", 17 + signals(14).length() + role.length(), 6);
      }
      fine(signals(16) + "var v:=0;nothing");
    });
    edge("Terms 1: 6 the 5th input (at its NAME)", () -> {
      String four = "input a;input b:one;output x;input c;input d;";
      fine(four + "nothing");
      fine(four + "output e;signal f;nothing");
      faulty(four + "input e;nothing", four.length() + 6, 6);
      faulty(four + "input e#", four.length() + 6, 6);
    });
    edge("Terms 1: 6 the 7th variable (at its NAME)", () -> {
      String six = "var a:=0;var b:=0;var c:=0;var d:=0;var e:=0;var f:=0;";
      fine(six + "nothing");
      fine(six + "signal g;nothing");
      faulty(six + "var g:=0;nothing", six.length() + 4, 6);
    });
    edge("Terms 1: 6 the 41st part (at its first TOKEN)", () -> {
      fine(times(39, "nothing;") + "nothing");
      for (String part : new String[] {"nothing", "pause", "emit q", "loop pause end", "[pause]", "exit t", "weak pause"}) {
        faulty(times(40, "nothing;") + part, 320, 6);
      }
      faulty("var v:=0;" + times(40, "v:=1;") + "v:=1", 209, 6);
      fine(times(13, "[nothing||nothing];") + "nothing");
      faulty(times(13, "[nothing||nothing];") + "loop pause end", 13 * 19 + 5, 6);
      fine(times(38, "nothing;") + "loop pause end");
      faulty(times(39, "nothing;") + "loop pause end", 317, 6);
    });
    edge("Terms 1: 6 the 25th PAUSE (at the first TOKEN of the part, which counts as it begins, with all its PAUSES)", () -> {
      String[] ones = {"pause", "halt", "sustain x", "await a", "await immediate a", "abort nothing when a end", "weak abort nothing when a end"};
      for (String part : ones) {
        fine(TOLD + times(23, "pause;") + part);
        faulty(TOLD + times(24, "pause;") + part, TOLD.length() + 144, 6);
      }
      fine(TOLD + times(21, "pause;") + "every a do nothing end");
      for (int had = 22; had <= 24; had++) faulty(TOLD + times(had, "pause;") + "every a do nothing end", TOLD.length() + 6 * had, 6);
      faulty(TOLD + times(23, "pause;") + "abort pause when a end", TOLD.length() + 144, 6);
      faulty(TOLD + times(21, "pause;") + "every a do pause end", TOLD.length() + 126 + 11, 6);
      faulty(TOLD + times(24, "pause;") + "halt#", TOLD.length() + 144, 6);
      fine(TOLD + times(24, "pause;") + "trap t in loop exit t end end");
    });
    edge("Terms 1: 6 the 9th branch (at the || ahead of it)", () -> {
      fine("[" + times(7, "nothing||") + "nothing]");
      faulty("[" + times(8, "nothing||") + "nothing]", 71, 6);
      faulty("[" + times(8, "nothing||") + "#", 71, 6);
      faulty("[" + times(7, "nothing||") + "nothing#", 71, 1);
      fine("[" + times(7, "nothing||") + "[nothing||nothing]]");
      fine("[" + times(7, "nothing||") + "nothing];[" + times(7, "nothing||") + "nothing]");
    });
    edge("Terms 1: at one TOKEN the least", () -> {
      String six = "var a:=0;var b:=0;var c:=0;var d:=0;var e:=0;var f:=0;";
      faulty(signals(16) + "signal sa;nothing", signals(16).length() + 7, 3);
      faulty(signals(16) + "signal loop;nothing", signals(16).length() + 7, 2);
      faulty(six + "var a:=0;nothing", six.length() + 4, 3);
      faulty(six + "var 1:=0;nothing", six.length() + 4, 2);
      faulty(times(40, "nothing;") + "q", 320, 4);
      faulty(times(40, "nothing;") + "end", 320, 2);
      faulty(times(40, "nothing;") + "#", 320, 1);
      faulty(times(40, "nothing;") + times(11, "z"), 320, 1);
      faulty(times(40, "nothing;"), 320, 2);
    });
  }

  private static void tooManyOpen() {
    edge("Terms 1: 6 the 16th that would be open (at that TOKEN)", () -> {
      for (String[] one : OPENING) {
        if (!one[0].contains("<")) continue;
        String part = one[0].replace("<", "") + one[1] + one[2];
        fine(TOLD + times(14, "[") + part + times(14, "]"));
        faulty(TOLD + times(15, "[") + part + times(15, "]"), TOLD.length() + 15 + one[0].indexOf('<'), 6);
      }
    });
    edge("Terms 1: 6 open, to their ends: what is within is one more", () -> {
      for (String[] one : OPENING) {
        String part = one[0].replace("<", "");
        String inner = one[1].equals("pause") ? "[pause]" : one[1].equals("a") ? "(a)" : "(1)";
        fine(TOLD + times(13, "[") + part + inner + one[2] + times(13, "]"));
        faulty(TOLD + times(14, "[") + part + inner + one[2] + times(14, "]"), TOLD.length() + 14 + part.length(), 6);
      }
      String[][] conditions = {{"present ", "(a)", " then nothing end"}, {"abort nothing when ", "not a", " end"}, {"weak abort nothing when immediate ", "not a", " end"},
        {"suspend nothing when ", "(a)", " end"}, {"every ", "(a)", " do nothing end"}, {"if ", "-1", "=1 then nothing end"}, {"if 1=", "(1)", " then nothing end"}};
      for (String[] one : conditions) {
        fine(TOLD + times(13, "[") + one[0] + one[1] + one[2] + times(13, "]"));
        faulty(TOLD + times(14, "[") + one[0] + one[1] + one[2] + times(14, "]"), TOLD.length() + 14 + one[0].length(), 6);
      }
    });
    edge("Terms 1: 6 open, to their ends: what is behind is not", () -> {
      for (String[] one : OPENING) {
        String part = one[0].replace("<", "") + one[1] + one[2];
        fine(TOLD + times(14, "[") + part + ";" + part + ";[pause]" + times(14, "]"));
      }
      fine(TOLD + times(14, "[") + "await not a and not a or not a and (a) or (a)" + times(14, "]"));
      fine(TOLD + times(14, "[") + "v:=-1+-1*-1-(1)-(1+1)" + times(14, "]"));
      fine(TOLD + times(13, "[") + "if -1=(1) then v:=-1 else v:=(1) end" + times(13, "]"));
    });
    edge("Terms 1: 6 weak abort is one", () -> {
      fine(TOLD + times(15, "weak abort ") + "nothing" + times(15, " when a end"));
      faulty(TOLD + times(16, "weak abort ") + "nothing" + times(16, " when a end"), TOLD.length() + 165, 6);
    });
    edge("Terms 1: 6 not and - to the ends of what they are of", () -> {
      fine(TOLD + "await " + times(15, "not ") + "a");
      faulty(TOLD + "await " + times(16, "not ") + "a", TOLD.length() + 66, 6);
      faulty(TOLD + "await " + times(15, "not ") + "(a)", TOLD.length() + 66, 6);
      fine(TOLD + "await " + times(15, "not ") + "a and " + times(15, "not ") + "a");
      fine(TOLD + "v:=" + times(15, "-") + "1");
      faulty(TOLD + "v:=" + times(16, "-") + "1", TOLD.length() + 18, 6);
      fine(TOLD + "v:=" + times(15, "-") + "1-" + times(15, "-") + "1*" + times(15, "-") + "v");
      faulty(TOLD + "v:=" + times(15, "(") + "-1" + times(15, ")"), TOLD.length() + 18, 6);
      fine(TOLD + "v:=" + times(14, "(") + "1-1-1" + times(14, ")") + "-1-(1)");
    });
    edge("Terms 1: 6 - that tells a variable, and what is not in the list, is not open", () -> {
      fine("var v:=-1;" + times(15, "[") + "v:=1-1" + times(15, "]"));
      for (String part : new String[] {"nothing", "halt", "await pre a and a or a", "sustain x", "emit x", "v:=1+1*1"}) fine(TOLD + times(15, "[") + part + times(15, "]"));
      fine("trap t in " + times(14, "[") + "exit t" + times(14, "]") + " end");
    });
  }

  private static void late() {
    edge("Terms 1: 7 a loop whose seq CAN END AT ONCE: nothing, emit, := 0", () -> {
      for (String part : new String[] {"nothing", "emit x", "emit y(1)", "v:=1"}) faulty(TOLD + "loop " + part + " end", TOLD.length(), 7);
    });
    edge("Terms 2: AT ONCE: pause 1, and what is made of it", () -> {
      for (String part : new String[] {"pause", "halt", "sustain x", "await a", "every a do nothing end", "every immediate a do nothing end"}) {
        fine(TOLD + "loop " + part + " end");
      }
      faulty(TOLD + "loop await immediate a end", TOLD.length(), 7);
    });
    edge("Terms 2: AT ONCE: exit its own; trap: 2 as 0, above 2 one less", () -> {
      fine("trap t in loop exit t end end");
      faulty("loop trap t in exit t end end", 0, 7);
      faulty("loop trap t in nothing end end", 0, 7);
      fine("loop trap t in pause end end");
      faulty("loop trap t in trap u in exit t end;pause end end", 0, 7);
      fine("loop trap t in trap u in exit u end;pause end end");
      fine("trap s in loop trap t in trap u in exit s end end end end");
      faulty("trap s in loop trap t in trap u in exit t end end end end", 10, 7);
      faulty("loop " + deepTraps(14, "exit ta") + " end", 0, 7);
      fine("trap z in loop " + deepTraps(13, "exit z") + " end end");
    });
    edge("Terms 2: AT ONCE: present, if: those of both (without else also 0)", () -> {
      for (String head : new String[] {"present a then ", "if v=1 then "}) {
        fine(TOLD + "loop " + head + "pause else pause end end");
        faulty(TOLD + "loop " + head + "nothing else pause end end", TOLD.length(), 7);
        faulty(TOLD + "loop " + head + "pause else nothing end end", TOLD.length(), 7);
        faulty(TOLD + "loop " + head + "pause end end", TOLD.length(), 7);
      }
    });
    edge("Terms 2: AT ONCE: p; q: those of p but 0, and, if p can have 0, those of q", () -> {
      fine("loop nothing;pause end");
      fine("loop pause;nothing end");
      faulty("loop nothing;nothing end", 0, 7);
      fine("loop trap t in pause;exit t end end");
      faulty("loop trap t in nothing;exit t end end", 0, 7);
      faulty("input a;loop present a then pause end;nothing end", 8, 7);
      fine("input a;loop present a then pause end;pause end");
    });
    edge("Terms 2: AT ONCE: loop: those of its seq but 0", () -> {
      faulty("loop loop nothing end end", 5, 7);
      faulty("loop pause;loop nothing end end", 11, 7);
      faulty("loop trap t in loop exit t end end end", 0, 7);
    });
    edge("Terms 2: AT ONCE: \"[\": the greater ones of all choices of one CODE of each branch", () -> {
      faulty("loop [nothing||nothing] end", 0, 7);
      faulty("loop [nothing] end", 0, 7);
      fine("loop [nothing||pause||nothing] end");
      faulty("loop trap t in [pause||exit t] end end", 0, 7);
      fine("loop trap t in [pause||trap u in exit u end] end end");
      faulty("loop trap t in trap u in [exit t||exit u] end;pause end end", 0, 7);
      faulty("input a;loop [present a then pause end||nothing] end", 8, 7);
      fine("input a;loop [present a then pause end||pause] end");
      faulty("loop [loop nothing end||nothing] end", 6, 7);
    });
    edge("Terms 2: AT ONCE: suspend: those of its seq", () -> {
      fine("input a;loop suspend pause when a end end");
      faulty("input a;loop suspend nothing when a end end", 8, 7);
    });
    edge("Terms 2: AT ONCE: of abort, weak abort, as they are made", () -> {
      for (String weak : new String[] {"", "weak "}) {
        fine("input a;loop " + weak + "abort pause when a end end");
        faulty("input a;loop " + weak + "abort nothing when a end end", 8, 7);
        faulty("input a;loop " + weak + "abort pause when immediate a end end", 8, 7);
        fine("input a;trap t in loop " + weak + "abort exit t when a end end end");
      }
    });
    edge("Terms 1: 8 a \"[\" with a variable that one branch gives a number and another one gives or uses", () -> {
      String two = "var v:=0;var w:=0;output y:sum;";
      for (String use : new String[] {"v:=2", "w:=v", "w:=1+(-v)", "emit y(v)", "if v=1 then nothing end", "if 1=v then nothing end", "[nothing||v:=1]"}) {
        faulty(two + "[v:=1||" + use + "]", two.length(), 8);
        faulty(two + "[" + use + "||v:=1]", two.length(), 8);
        faulty(two + "[nothing||" + use + "||nothing||nothing;v:=1||nothing]", two.length(), 8);
      }
      faulty(two + "[[w:=v||nothing]||v:=1]", two.length(), 8);
      faulty(two + "[w:=v;[nothing||nothing]||v:=1]", two.length(), 8);
      faulty(two + "[[v:=1||nothing]||w:=v]", two.length(), 8);
      faulty(two + "[v:=1;[nothing||nothing]||w:=v]", two.length(), 8);
      fine(two + "[w:=v||if v=1 then nothing end||emit y(v)]");
      fine(two + "[v:=v+1;v:=2||w:=w+1]");
      fine(two + "[v:=1];[nothing||v:=v+1]");
      fine(two + "v:=1;[nothing||w:=v];v:=2");
    });
    edge("Terms 1: 8 with each of six variables", () -> {
      String six = "var a:=0;var b:=0;var c:=0;var d:=0;var e:=0;var f:=0;";
      for (char one = 'a'; one <= 'f'; one++) {
        for (char other = 'a'; other <= 'f'; other++) {
          String[] texts = {"[" + one + ":=1||" + other + ":=2]", "[" + one + ":=1||if " + other + "=2 then nothing end]", "[if " + other + "=2 then nothing end||" + one + ":=1]"};
          for (String text : texts) {
            if (one == other) faulty(six + text, six.length(), 8);
            else fine(six + text);
          }
        }
      }
    });
    edge("Terms 1: behind all of these, at the first TOKEN of the part, the first in order of text", () -> {
      faulty("loop nothing end;#", 17, 1);
      faulty("loop nothing end;", 17, 2);
      faulty("loop nothing end;exit t", 22, 4);
      faulty("loop nothing end" + times(40, ";nothing"), 17 + 8 * 38, 6);
      faulty("var v:=0;[v:=1||v:=2];loop nothing end", 9, 8);
      faulty("var v:=0;loop nothing end;[v:=1||v:=2]", 9, 7);
      faulty("var v:=0;loop [v:=1||v:=2] end", 9, 7);
      faulty("var v:=0;loop [v:=1||v:=2];pause end", 14, 8);
      faulty("var v:=0;[v:=1||[v:=2||v:=3]]", 9, 8);
      faulty("var v:=0;[nothing||[v:=2||v:=3]]", 19, 8);
      faulty("nothing;  loop nothing end;loop nothing end", 10, 7);
    });
  }

  /** Traps named ta, tb, .. around a part. */
  private static String deepTraps(int many, String inner) {
    StringBuilder text = new StringBuilder();
    for (int i = 0; i < many; i++) text.append("trap t").append((char) ('a' + i)).append(" in ");
    text.append(inner).append(times(many, " end"));
    return text.toString();
  }

  private static void compiling() {
    edge("Promise 4: THE TAPE (which is empty then), also with a FAULT", () -> {
      BeatMill x = made("nothing");
      due("count(2)", x.count(2), 0);
      write(x, "foo");
      due("compile()", x.compile(), -10);
      due("count(2)", x.count(2), 0);
      due("compile() of nothing", x.compile(), -10);
      due("fault()", x.fault(), 2);
    });
    edge("Promise 4: -10 less the place of its FAULT", () -> {
      BeatMill x = new BeatMill();
      write(x, "foo");
      due("at 0", x.compile(), -10);
      write(x, times(40, " ") + "foo");
      due("at 40", x.compile(), -50);
      write(x, times(797, " ") + "foo");
      due("at 797", x.compile(), -807);
      write(x, times(795, " ") + "halt;");
      due("at the end", x.compile(), -810);
    });
    edge("Promise 4: FULL: 4 are there (THE TAPE stays)", () -> {
      BeatMill x = new BeatMill();
      for (int m = 0; m < 4; m++) add(x, "pause", m);
      write(x, "halt;pause");
      due("compile()", x.compile(), BeatMill.FULL);
      due("compile()", x.compile(), BeatMill.FULL);
      due("count(2)", x.count(2), 10);
      due("count(0)", x.count(0), 4);
      x.clear();
      due("compile()", x.compile(), 0);
      due("part(0, 1)", x.part(0, 1), 5);
    });
    edge("Promise 4: a text with a FAULT makes no module", () -> {
      BeatMill x = new BeatMill();
      for (int i = 0; i < 6; i++) {
        write(x, "loop nothing end");
        due("compile()", x.compile(), -10);
      }
      due("count(0)", x.count(0), 0);
      add(x, "halt", 0);
    });
    edge("Promise 5: 0 ahead of any compile(), and behind one without a FAULT", () -> {
      BeatMill x = new BeatMill();
      due("fault()", x.fault(), 0);
      x.compile();
      due("fault()", x.fault(), 2);
      add(x, "halt", 0);
      due("fault()", x.fault(), 0);
    });
    edge("Promise 5: the latest compile() that was not FULL", () -> {
      BeatMill x = new BeatMill();
      for (int m = 0; m < 3; m++) add(x, "pause", m);
      write(x, "foo");
      x.compile();
      due("fault()", x.fault(), 4);
      add(x, "halt", 3);
      write(x, "foo");
      due("compile()", x.compile(), BeatMill.FULL);
      due("fault()", x.fault(), 0);
      x.clear();
      x.compile();
      due("fault()", x.fault(), 4);
    });
    edge("Terms 1: what a text with a FAULT left open is gone with it", () -> {
      BeatMill x = new BeatMill();
      String[] broken = {times(16, "["), "input a;await not not (", "var v:=0;v:=-(", "trap t in trap u in exit w", times(24, "pause;"), "input a;output b;var v:=1;", "var v:=0;[v:=1||["};
      for (String text : broken) {
        write(x, text);
        due("compile() of a broken text", x.compile() <= -10 ? 1 : 0, 1);
      }
      add(x, times(15, "[") + "nothing" + times(15, "]"), 0);
      add(x, times(23, "pause;") + "pause", 1);
      add(x, "var a:=2;signal b;input v;[a:=1||nothing]", 2);
      write(x, "exit t");
      due("compile() of exit t", x.compile(), -15);
    });
  }

  /** The modules 0 of two objects tell the same, and governors of them do the same. */
  private static void alike(String text, BeatMill one, BeatMill other) {
    for (int what = 0; what < 8; what++) due("module(0, " + what + ") of " + text, one.module(0, what), other.module(0, what));
    due("search(0) of " + text, one.search(0), other.search(0));
    due("governor(0) of " + text, one.governor(0), other.governor(0));
    for (int beats = 0; beats < 4; beats++) {
      due("give of " + text, one.give(0, 0, beats % 2 == 1, 5), other.give(0, 0, beats % 2 == 1, 5));
      due("beat(0) of " + text, one.beat(0), other.beat(0));
      due("told(0, 1) of " + text, one.told(0, 1), other.told(0, 1));
      due("value(0, 1) of " + text, one.value(0, 1), other.value(0, 1));
      for (int i = 0; i < 10; i++) {
        due("paused(0, " + i + ") of " + text, one.paused(0, i), other.paused(0, i));
        for (int what = 0; what < 5; what++) due("wire(0, " + i + ", " + what + ") of " + text, one.wire(0, i, what), other.wire(0, i, what));
      }
    }
  }

  private static void modules() {
    edge("Terms 1: as many parts and PAUSES, as deep, as may be", () -> {
      String nest = times(14, "abort ") + "pause" + times(14, " when immediate a end");
      BeatMill x = run("input a;output x;" + nest + ";" + times(9, "abort ") + "emit x" + times(9, " when immediate a end") + times(5, ";[nothing]") + ";nothing");
      due("parts", x.module(0, 4), 36);
      due("PAUSES", x.module(0, 5), 24);
      beat(x, 0, 0, 0);
      due("SET", x.told(0, 1), 15);
      beat(x, 1, 1, 1);
      wires(x, 35, 1, 0, 1, 0, 0);
      x = run("input a;output x;" + nest + ";" + times(9, "abort ") + "emit x" + times(9, " when immediate a end") + times(5, ";[nothing]") + ";nothing");
      beat(x, 0, 0, 0);
      beat(x, 0, 1, 2);
      wires(x, 35, 1, 0, 1, 0, 0);
    });
    edge("Terms 1: a text is read alike whatever was read before", () -> {
      String[] texts = {"input a;output x;var v:=1;[loop await a;emit x end||suspend halt when a end||trap t in pause;exit t end]", "pause;pause",
        "loop nothing end", "input b:one;output y:sum;every b do emit y(?b) end", times(30, "pause;"), "output x;trap t in [exit t||weak abort sustain x when pre x end] end",
        "nothing;nothing;nothing;[pause||pause||nothing;halt]", "input a;present a then if 1=1 then pause else nothing end else halt end"};
      for (String text : texts) {
        BeatMill fresh = new BeatMill();
        BeatMill worn = new BeatMill();
        for (String other : texts) {
          write(worn, other);
          worn.compile();
          worn.clear();
        }
        write(fresh, text);
        write(worn, text);
        due("compile() of " + text, worn.compile(), fresh.compile());
        due("fault() of " + text, worn.fault(), fresh.fault());
        alike(text, worn, fresh);
      }
    });
    edge("Promise 6: BAD", () -> {
      BeatMill x = made("nothing");
      for (int m : new int[] {-1, 1, 4, 32, MIN, MAX}) due("module(" + m + ", 0)", x.module(m, 0), BeatMill.BAD);
      for (int what : new int[] {-1, 8, MIN, MAX}) due("module(0, " + what + ")", x.module(0, what), BeatMill.BAD);
    });
    edge("Promise 6: none of each, all of each", () -> {
      BeatMill x = made("nothing");
      int[] least = {0, 0, 0, 0, 1, 0, 0, 1};
      for (int what = 0; what < 8; what++) due("module(0, " + what + ")", x.module(0, what), least[what]);
      StringBuilder text = new StringBuilder("input ia;input ib;input ic;input id;");
      for (int i = 0; i < 12; i++) text.append("output o").append((char) ('a' + i)).append(';');
      for (int i = 0; i < 6; i++) text.append("var v").append((char) ('a' + i)).append(":=1;");
      add(x, text + times(24, "halt;") + times(8, "if 1=1 then ") + "nothing" + times(8, " end") + times(7, ";nothing"), 1);
      int[] most = {16, 4, 12, 6, 40, 24, 8, 9};
      for (int what = 0; what < 8; what++) due("module(1, " + what + ")", x.module(1, what), most[what]);
    });
    edge("Promise 6: 7 the greatest number of parts that are open around one (itself too)", () -> {
      String[] texts = {"halt", "halt;halt;halt", "[halt]", "[halt||halt]", "loop [halt];halt end", "nothing;loop trap t in halt end end;nothing",
        times(15, "[") + "halt" + times(15, "]"), "input a;await not not not a", "input a;abort every a do nothing end when a end"};
      int[] want = {1, 1, 2, 2, 3, 3, 16, 1, 3};
      for (int i = 0; i < texts.length; i++) due(texts[i], made(texts[i]).module(0, 7), want[i]);
    });
    edge("Promise 6: 6 ifs, 5 PAUSES: of each part as told", () -> {
      BeatMill x = made("input a;output x;[pause||halt||sustain x||await a||await immediate a||abort nothing when a end||weak abort nothing when a end||every a do nothing end]");
      due("PAUSES", x.module(0, 5), 10);
      due("ifs", x.module(0, 6), 0);
      x = made("input a;abort nothing when immediate a end;weak abort nothing when immediate a end;every immediate a do nothing end");
      due("PAUSES", x.module(0, 5), 5);
      due("parts", x.module(0, 4), 6);
    });
    edge("Promise 7: BAD", () -> {
      BeatMill x = made("halt;halt");
      for (int m : new int[] {-1, 1, MIN, MAX}) due("part(" + m + ", 0)", x.part(m, 0), BeatMill.BAD);
      for (int i : new int[] {-1, 2, 40, MIN, MAX}) due("part(0, " + i + ")", x.part(0, i), BeatMill.BAD);
    });
    edge("Promise 7: the first and the fortieth part, in order of text", () -> {
      BeatMill x = made(times(39, "nothing;") + " nothing");
      due("part(0, 0)", x.part(0, 0), 0);
      due("part(0, 38)", x.part(0, 38), 304);
      due("part(0, 39)", x.part(0, 39), 313);
      due("part(0, 40)", x.part(0, 40), BeatMill.BAD);
      x = made("input a;[halt||weak abort loop halt end when a end]");
      int[] places = {8, 9, 15, 26, 31};
      for (int i = 0; i < 5; i++) due("part(0, " + i + ")", x.part(0, i), places[i]);
    });
  }
}
