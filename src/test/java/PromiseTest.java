import java.util.Random;

/** For each promise of the document: ordinary calls, the edges that it names, and wrong inputs, with answers worked by hand. */
public final class PromiseTest extends Bench {
  public static void main(String[] args) {
    promise1();
    promise2and3();
    promise4();
    promise5tokens();
    promise5names();
    promise5limits();
    promise5late();
    promise6and7();
    promise8();
    promise9();
    promise10();
    kernelParts();
    madeParts();
    numbers();
    promise11to13();
    promise14();
    promise15and16();
    promise17to19();
    promise20to23();
    searchEdges();
    promise24to26();
    promise27and28();
    anyArguments();
    finish("all promises hold");
  }

  private static void promise1() {
    section = "promise 1";
    BeatMill x = new BeatMill();
    for (int what = 0; what < 3; what++) due("count(" + what + ")", x.count(what), 0);
    due("fault()", x.fault(), 0);
    due("against(0)", x.against(0), -1);
    due("governor(0)", x.governor(0), BeatMill.BAD);
    due("beat(0)", x.beat(0), BeatMill.BAD);
    due("clear()", x.clear(), 0);
  }

  private static void promise2and3() {
    section = "promises 2, 3";
    BeatMill x = new BeatMill();
    for (int i = 1; i <= 40; i++) due("feed", x.feed(0, -1, MIN, MAX, 1), 20 * i);
    due("feed, 801", x.feed(0, 0, 0, 0, 0), BeatMill.FULL);
    due("count(2)", x.count(2), 800);
    due("end(781)", x.end(781), 800);
    due("feed, 801", x.feed(0, 0, 0, 0, 0), BeatMill.FULL);
    due("end(780)", x.end(780), 781);
    due("feed, 800", x.feed(0, 0, 0, 0, 0), 800);
    due("end(801)", x.end(801), BeatMill.BAD);
    due("end(-1)", x.end(-1), BeatMill.BAD);
    due("end(MAX)", x.end(MAX), BeatMill.BAD);
    due("end(800)", x.end(800), 800);
    due("end(0)", x.end(0), 800);
    due("end(1)", x.end(1), BeatMill.BAD);
    due("end(0)", x.end(0), 0);
    // the highest byte first, and the tape keeps its first bytes
    due("feed nothing", x.feed(0x6e6f7468, 0x696e6767, 0x67676767, 0x67676767, 0x67676767), 20);
    due("end(7)", x.end(7), 20);
    due("compile()", x.compile(), 0);
    due("module(0, 4)", x.module(0, 4), 1);
  }

  private static void promise4() {
    section = "promise 4";
    BeatMill x = new BeatMill();
    for (int m = 0; m < 3; m++) {
      write(x, "pause");
      due("compile()", x.compile(), m);
      due("count(2)", x.count(2), 0);
    }
    write(x, "pause;");
    due("compile()", x.compile(), -16);
    due("fault()", x.fault(), 2);
    due("count(0)", x.count(0), 3);
    write(x, "pause");
    due("compile()", x.compile(), 3);
    write(x, "#");
    due("compile(), four are there", x.compile(), BeatMill.FULL);
    due("count(2), the tape stays", x.count(2), 1);
    due("fault(), not of a full one", x.fault(), 0);
    due("clear()", x.clear(), 4);
    due("compile()", x.compile(), -10);
    due("fault()", x.fault(), 1);
    due("fault() again", x.fault(), 1);
  }

  private static void promise5tokens() {
    section = "promise 5, faults 1 and 2";
    faulty("nothing.", 7, 1);
    faulty("abcdefghijk", 0, 1);
    faulty("abcdefghij", 0, 4);
    faulty("var v:=1234567;nothing", 7, 1);
    fine("var v:=123456;nothing");
    fine("var abcdefghij:=-000001;nothing");
    faulty("[pause|pause]", 6, 1);
    fine("[pause||pause]");
    faulty("if 1!2 then pause end", 4, 1);
    faulty("Pause", 0, 1);
    faulty("nothing;\tpause", 8, 1);
    faulty("nothing \0", 8, 1);
    faulty("nothing;\u00ff", 8, 1);
    fine("\n nothing\n;\npause \n");
    fine("if 1<=2then nothing end");
    faulty("", 0, 2);
    faulty("   ", 3, 2);
    faulty("nothing;", 8, 2);
    faulty("nothing;  ", 10, 2);
    faulty("nothing,pause", 7, 2);
    faulty("nothing pause", 8, 2);
    faulty("input ;nothing", 6, 2);
    faulty("input loop;nothing", 6, 2);
    faulty("input a nothing", 8, 2);
    faulty("output x:two;nothing", 9, 2);
    faulty("output x:;nothing", 9, 2);
    faulty("output x:=1;nothing", 8, 2);
    faulty("var v=1;nothing", 5, 2);
    faulty("var v:=- -1;nothing", 9, 2);
    faulty("var v:=w;nothing", 7, 2);
    faulty("input a;", 8, 2);
    faulty("weak pause when a end", 5, 2);
    faulty("loop pause", 10, 2);
    faulty("pause end", 6, 2);
    faulty("emit 5", 5, 2);
    faulty("emit", 4, 2);
    faulty("exit pause", 5, 2);
    faulty("trap t in exit ;pause end", 15, 2);
    faulty("output x;emit ;pause", 14, 2);
    faulty("input a;await ;pause", 14, 2);
    faulty("trap in in pause end", 5, 2);
    faulty("nothing;input a;pause", 8, 2);
    faulty("immediate", 0, 2);
    faulty("5", 0, 2);
    faulty("[pause", 6, 2);
    faulty("[pause)", 6, 2);
    faulty("[pause||]", 8, 2);
    faulty("input a;await pre pre a", 18, 2);
    faulty("input a;await a and", 19, 2);
    faulty("input a;await (a", 16, 2);
    faulty("input a;await pre (a)", 18, 2);
    faulty("var v:=0;v:=1+", 14, 2);
    faulty("var v:=0;v=1", 10, 2);
    faulty("var v:=0;v:=+1", 12, 2);
    faulty("var v:=0;v:=12v", 14, 2);
    faulty("if 1 then pause end", 5, 2);
    faulty("if 1<2<3 then pause end", 6, 2);
    faulty("if 1!= =2 then pause end", 7, 2);
    faulty("input a;suspend pause when immediate a end", 27, 2);
    faulty("input a;every a pause end", 16, 2);
    section = "promise 5, a full tape of tokens";
    faulty(times(800, ";"), 0, 2);
    faulty("nothing" + times(793, ";"), 8, 2);
    faulty(times(799, " ") + ".", 799, 1);
    faulty(times(800, "a"), 0, 1);
    faulty(times(800, "9"), 0, 1);
    fine(times(793, " ") + "nothing");
    faulty("var v:=0;v:=1" + times(393, "+1") + "+", 800, 2);
    fine("var v:=0;v:=1" + times(393, "+1") + " ");
  }

  private static void promise5names() {
    section = "promise 5, faults 3 to 5";
    faulty("input a;output a;nothing", 15, 3);
    faulty("var v:=1;var v:=2;nothing", 13, 3);
    faulty("input a;var a:=1;nothing", 12, 3);
    faulty("var a:=1;signal a;nothing", 16, 3);
    faulty("trap t in trap t in pause end end", 15, 3);
    faulty("input a;trap a in pause end", 13, 3);
    faulty("var a:=0;trap a in pause end", 14, 3);
    fine("trap t in pause end;trap t in pause end");
    faulty("emit x", 5, 4);
    faulty("input a;emit a", 13, 4);
    faulty("input a;sustain a", 16, 4);
    faulty("var v:=1;emit v", 14, 4);
    fine("signal a;emit a");
    faulty("exit t", 5, 4);
    faulty("trap t in pause end;exit t", 25, 4);
    faulty("input a;trap t in exit a end", 23, 4);
    faulty("x:=1", 0, 4);
    faulty("foo bar", 0, 4);
    faulty("input a;a", 8, 4);
    faulty("var v:=1;present v then nothing end", 17, 4);
    faulty("await x", 6, 4);
    faulty("output x;var v:=0;v:=?x", 22, 4);
    faulty("var v:=0;v:=?v", 13, 4);
    faulty("var v:=0;v:=w", 12, 4);
    faulty("output x:sum;var v:=0;v:=x", 25, 4);
    faulty("trap t in if t=1 then nothing end end", 13, 4);
    fine("input a:sum;var v:=0;v:=?a");
    faulty("output x:sum;emit x", 18, 5);
    faulty("output x:sum;emit x)", 18, 5);
    faulty("output x:sum;emit x.", 19, 1);
    faulty("output x;emit x(1)", 14, 5);
    faulty("output x;emit x(.", 14, 5);
    faulty("output x:one;sustain x", 21, 5);
    faulty("output x:one;sustain x(1)", 21, 5);
    faulty("output x:one;sustain x.", 22, 1);
    faulty("output x;sustain x(1)", 18, 2);
  }

  private static void promise5limits() {
    section = "promise 5, fault 6";
    StringBuilder told = new StringBuilder();
    for (int i = 0; i < 16; i++) told.append("signal s").append((char) ('a' + i)).append(';');
    fine(told + "nothing");
    faulty(told + "signal z;nothing", told.length() + 7, 6);
    faulty(told + "signal sa;nothing", told.length() + 7, 3);
    faulty(told + "signal 1;nothing", told.length() + 7, 2);
    fine("input a;input b;input c;input d;nothing");
    faulty("input a;input b;input c;input d;input e;nothing", 38, 6);
    faulty("input a;input b;input c;input d;input a;nothing", 38, 3);
    fine("var a:=0;var b:=0;var c:=0;var d:=0;var e:=0;var f:=0;nothing");
    faulty("var a:=0;var b:=0;var c:=0;var d:=0;var e:=0;var f:=0;var g:=0;nothing", 58, 6);
    fine(times(39, "nothing;") + "nothing");
    faulty(times(40, "nothing;") + "nothing", 320, 6);
    faulty(times(40, "nothing;") + "x:=1", 320, 4);
    faulty(times(40, "nothing;") + ")", 320, 2);
    fine(times(23, "pause;") + "pause");
    faulty(times(24, "pause;") + "pause", 144, 6);
    fine(times(24, "pause;") + "nothing");
    fine("input a;" + times(21, "pause;") + "every a do nothing end");
    faulty("input a;" + times(22, "pause;") + "every a do nothing end", 140, 6);
    faulty("input a;" + times(23, "halt;") + "abort pause when a end", 129, 6);
    faulty("input a;" + times(24, "halt;") + "weak abort nothing when a end", 128, 6);
    faulty("input a;" + times(24, "halt;") + "await a", 128, 6);
    faulty("output a;" + times(24, "halt;") + "sustain a", 129, 6);
    fine("[" + times(7, "nothing||") + "nothing]");
    faulty("[" + times(8, "nothing||") + "nothing]", 71, 6);
    faulty("[" + times(8, "nothing||"), 71, 6);
    fine(times(15, "[") + "nothing" + times(15, "]"));
    faulty(times(16, "[") + "nothing" + times(16, "]"), 15, 6);
    fine(times(14, "loop ") + "[pause]" + times(14, " end"));
    faulty(times(15, "loop ") + "[pause]" + times(15, " end"), 75, 6);
    fine("input a;await " + times(15, "not ") + "a");
    faulty("input a;await " + times(16, "not ") + "a", 74, 6);
    faulty("input a;await " + times(15, "not ") + "(a)", 74, 6);
    fine("input a;await " + times(20, "not a and ") + "not a");
    fine("input a;await " + times(15, "(") + "a" + times(15, ")") + " or (a)");
    faulty("input a;loop await " + times(15, "(") + "a" + times(15, ")") + " end", 33, 6);
    fine("var v:=-1;v:=" + times(15, "-") + "1");
    faulty("var v:=-1;v:=" + times(16, "-") + "1", 28, 6);
    fine("var v:=0;v:=" + times(15, "-") + "1" + times(30, "-1") + "- -1");
    fine("output x:sum;emit x(" + times(14, "(") + "1" + times(15, ")"));
    faulty("output x:sum;emit x(" + times(15, "(") + "1" + times(16, ")"), 34, 6);
    faulty("output x:sum;" + times(15, "[") + "emit x(1)" + times(15, "]"), 34, 6);
    faulty("output x;" + times(15, "[") + "emit x(1)" + times(15, "]"), 29, 5);
    fine("input a;" + times(15, "weak abort ") + "nothing" + times(15, " when a end"));
    faulty("input a;" + times(16, "weak abort ") + "nothing" + times(16, " when a end"), 8 + 165, 6);
  }

  private static void promise5late() {
    section = "promise 5, what is open does not outlive a fault";
    BeatMill x = new BeatMill();
    String[] broken = {times(16, "["), "[[[", "input a;await not not (", "var v:=0;v:=-(", "trap t in trap u in exit v", "loop nothing end"};
    for (int i = 0; i < 12; i++) {
      write(x, broken[i % 6]);
      due("compile() of a broken text", x.compile() <= -10 ? 1 : 0, 1);
    }
    write(x, "trap t in exit u end");
    due("traps of a broken text are gone", x.compile(), -25);
    write(x, times(16, "["));
    due("fifteen may be open", x.compile(), -25);
    due("fault()", x.fault(), 6);
    write(x, times(15, "[") + "nothing" + times(15, "]"));
    due("fifteen may be open", x.compile(), 0);
    section = "promise 5, faults 7 and 8";
    faulty("loop nothing end", 0, 7);
    faulty("nothing;loop nothing end", 8, 7);
    faulty("loop nothing end x", 17, 2);
    faulty("input a;loop present a then pause end end", 8, 7);
    fine("input a;loop present a then pause else halt end end");
    faulty("loop pause;loop nothing end end", 11, 7);
    faulty("loop loop nothing end end", 5, 7);
    faulty("loop trap t in [exit t||pause] end end", 0, 7);
    faulty("loop trap t in exit t end end", 0, 7);
    fine("loop trap t in pause;exit t end end");
    fine("trap t in loop exit t end end");
    fine("loop [pause||nothing] end");
    faulty("loop [nothing||nothing] end", 0, 7);
    faulty("input a;loop abort nothing when a end end", 8, 7);
    fine("input a;loop abort halt when a end end");
    faulty("input a;loop abort halt when immediate a end end", 8, 7);
    faulty("input a;loop weak abort halt when immediate a end end", 8, 7);
    fine("input a;loop weak abort halt when a end end");
    faulty("input a;loop await immediate a end", 8, 7);
    fine("input a;loop await a end");
    fine("input a;loop every immediate a do nothing end end");
    fine("loop trap t in trap u in exit t end;pause end;pause end");
    faulty("loop trap t in trap u in exit t end;pause end end", 0, 7);
    fine("loop trap t in trap u in exit u end;pause end end");
    faulty("loop if 1=1 then pause end end", 0, 7);
    faulty("input a;loop suspend nothing when a end end", 8, 7);
    faulty("var v:=0;[v:=1||v:=2]", 9, 8);
    faulty("var v:=0;var w:=0;[v:=1||w:=v]", 18, 8);
    faulty("var v:=0;var w:=0;[w:=v||v:=1]", 18, 8);
    faulty("var v:=0;[nothing||v:=1||loop if v=1 then halt else halt end end]", 9, 8);
    faulty("var v:=0;output x:sum;[emit x(v)||nothing;v:=1]", 22, 8);
    faulty("var v:=0;[[v:=1]||[v:=2]]", 9, 8);
    faulty("var v:=0;[[nothing||if v=1 then nothing end]||v:=1]", 9, 8);
    faulty("var v:=0;[nothing||[[nothing||v:=1]||nothing;if 1=v then nothing end]]", 19, 8);
    faulty("var v:=0;[[v:=1||nothing]||[v:=2||v:=3]]", 9, 8);
    fine("var v:=0;var w:=0;[w:=v||if v=1 then nothing end]");
    fine("var v:=0;[v:=1;v:=v+1];[v:=2||nothing]");
    faulty("var v:=0;[v:=1||v:=2];loop nothing end", 9, 8);
    faulty("var v:=0;loop nothing end;[v:=1||v:=2]", 9, 7);
    faulty("var v:=0;[v:=1||v:=2];[", 23, 2);
  }

  private static void promise6and7() {
    section = "promises 6, 7";
    BeatMill x = made("input a;output x;var v:=1;signal s:sum;input b:most;output y; loop pause;if v=1 then if 1<2 then emit s(1) end end end");
    int[] want = {5, 2, 2, 1, 5, 1, 2, 4};
    for (int what = 0; what < 8; what++) due("module(0, " + what + ")", x.module(0, what), want[what]);
    due("module(0, 8)", x.module(0, 8), BeatMill.BAD);
    due("module(0, -1)", x.module(0, -1), BeatMill.BAD);
    due("module(1, 0)", x.module(1, 0), BeatMill.BAD);
    due("module(-1, 0)", x.module(-1, 0), BeatMill.BAD);
    int[] places = {62, 67, 73, 85, 97};
    for (int i = 0; i < 5; i++) due("part(0, " + i + ")", x.part(0, i), places[i]);
    due("part(0, 5)", x.part(0, 5), BeatMill.BAD);
    due("part(0, -1)", x.part(0, -1), BeatMill.BAD);
    due("part(1, 0)", x.part(1, 0), BeatMill.BAD);
    x = made("input a;output x;every a do await a end;[sustain x||weak abort halt when a end||abort pause when a end]");
    due("PAUSES", x.module(0, 5), 9);
    due("parts", x.module(0, 4), 8);
    due("depth", x.module(0, 7), 3);
    x = made("nothing");
    due("depth of one part", x.module(0, 7), 1);
  }

  private static void promise8() {
    section = "promise 8";
    BeatMill x = made("pause");
    write(x, "halt");
    due("compile()", x.compile(), 1);
    due("governor(2)", x.governor(2), BeatMill.BAD);
    due("governor(-1)", x.governor(-1), BeatMill.BAD);
    for (int g = 0; g < 8; g++) due("governor", x.governor(g % 2), g);
    due("governor, the ninth", x.governor(0), BeatMill.FULL);
    due("governor(2) still", x.governor(2), BeatMill.BAD);
    due("told(5, 6)", x.told(5, 6), 1);
    due("count(1)", x.count(1), 8);
  }

  private static void promise9() {
    section = "promise 9";
    BeatMill x = run("output x;input a:one;input b;loop present a then emit x end;pause end");
    due("give(0, 2, ..)", x.give(0, 2, true, 0), BeatMill.BAD);
    due("give(0, -1, ..)", x.give(0, -1, true, 0), BeatMill.BAD);
    due("give(1, 0, ..)", x.give(1, 0, true, 0), BeatMill.BAD);
    due("give(-1, 0, ..)", x.give(-1, 0, true, 0), BeatMill.BAD);
    due("give, too great", x.give(0, 0, true, 1000000001), BeatMill.BAD);
    due("give, too small", x.give(0, 0, true, -1000000001), BeatMill.BAD);
    due("give, MIN", x.give(0, 0, false, MIN), BeatMill.BAD);
    beat(x, 0, 0, 0);
    due("give, greatest", x.give(0, 0, true, 1000000000), 1);
    beat(x, 0, 0, 3);
    due("value(0, 1)", x.value(0, 1), 1000000000);
    due("give", x.give(0, 0, true, 5), 1);
    due("give, not", x.give(0, 0, false, 6), 1);
    beat(x, 0, 0, 0);
    due("value(0, 1), not given", x.value(0, 1), 1000000000);
    due("give twice", x.give(0, 0, true, 5), 1);
    due("give twice", x.give(0, 0, true, -1000000000), 1);
    due("give b", x.give(0, 1, true, 9), 1);
    due("value(0, 1), ahead of the beat", x.value(0, 1), 1000000000);
    beat(x, 0, 0, 7);
    due("value(0, 1)", x.value(0, 1), -1000000000);
    due("value(0, 2), without :", x.value(0, 2), 0);
    beat(x, 0, 0, 0);
    x = run("input a;nothing");
    beat(x, 0, 1, 0);
    due("give, ended", x.give(0, 0, true, 0), BeatMill.STATE);
    due("give, ended and bad", x.give(0, 1, true, 0), BeatMill.BAD);
    due("give, ended and too great", x.give(0, 0, true, MAX), BeatMill.BAD);
    section = "promise 9, what is given goes behind a beat that fails or is stuck";
    x = run("input a;output x;var v:=0;loop present a then v:=1/v end;pause end");
    beat(x, 1, 2, 0);
    beat(x, 0, 0, 0);
    x = run("input a;output x;loop present a then present x then emit x end end;pause end");
    beat(x, 1, 3, 0);
    beat(x, 0, 0, 0);
  }

  private static void promise10() {
    section = "promise 10";
    BeatMill x = run("output x;emit x;pause;pause");
    due("beat(1)", x.beat(1), BeatMill.BAD);
    due("beat(-1)", x.beat(-1), BeatMill.BAD);
    beat(x, 0, 0, 1);
    beat(x, 0, 0, 0);
    beat(x, 0, 1, 0);
    due("beat(0), ended", x.beat(0), BeatMill.STATE);
    due("beats", x.told(0, 0), 3);
    section = "promise 10, stuck";
    x = run("output x;present x then nothing else emit x end");
    beat(x, 0, 3, 0);
    beat(x, 0, 3, 0);
    due("beats", x.told(0, 0), 0);
    x = run("output x;present x then emit x end");
    beat(x, 0, 3, 0);
    x = run("output x;output y;[present x then emit y end||present y then emit x end]");
    beat(x, 0, 3, 0);
    x = run("output x;output y;[present x then emit y end||emit x]");
    beat(x, 0, 1, 3);
    x = run("output x;output y;present x then emit y end;emit x");
    beat(x, 0, 3, 0);
    x = run("input a;output x;present x and a then emit x end");
    beat(x, 0, 1, 0);
    x = run("output x;present x or not x then nothing end;emit x");
    beat(x, 0, 3, 0);
    x = run("output x;emit x;present x or not x then nothing end");
    beat(x, 0, 1, 1);
    x = run("output x;pause;present x then emit x end");
    beat(x, 0, 0, 0);
    beat(x, 0, 3, 0);
    beat(x, 0, 3, 0);
    due("beats", x.told(0, 0), 1);
    due("paused", x.paused(0, 0), 1);
  }

  private static void kernelParts() {
    section = "2 PARTS, of the kernel";
    BeatMill x = run("input a;output x;output y;present a then emit x else pause;emit y end;pause");
    beat(x, 1, 0, 3);
    beat(x, 0, 1, 0);
    x = run("input a;output x;output y;present a then emit x else pause;emit y end;pause");
    beat(x, 0, 0, 0);
    beat(x, 1, 0, 5);
    beat(x, 0, 1, 0);
    section = "[";
    x = run("output x;[pause||pause;pause];emit x");
    beat(x, 0, 0, 0);
    due("set", x.told(0, 1), 2);
    beat(x, 0, 0, 0);
    due("set", x.told(0, 1), 1);
    beat(x, 0, 1, 1);
    section = "suspend";
    x = run("input a;output x;suspend loop emit x;pause end when a end");
    beat(x, 1, 0, 3);
    beat(x, 1, 0, 1);
    due("set", x.told(0, 1), 1);
    beat(x, 0, 0, 2);
    section = "trap";
    x = run("output x;trap t in trap u in [exit t||exit u] end;emit x end");
    beat(x, 0, 1, 0);
    x = run("output x;trap t in trap u in [exit u||pause] end;emit x end");
    beat(x, 0, 1, 1);
    due("set, killed", x.told(0, 1), 0);
    x = run("output x;output y;trap t in [pause;emit x;exit t||loop emit y;pause end] end;emit x;pause");
    beat(x, 0, 0, 2);
    beat(x, 0, 0, 3);
    due("set", x.told(0, 1), 1);
    beat(x, 0, 1, 0);
    section = "a pause that is killed as it is begun is not set";
    x = run("output x;loop trap t in emit x;pause;exit t end end");
    beat(x, 0, 0, 1);
    beat(x, 0, 0, 1);
    due("set", x.told(0, 1), 0);
    beat(x, 0, 0, 0);
    section = "pre";
    x = run("input a;output x;loop present pre a and not a then emit x end;pause end");
    beat(x, 1, 0, 1);
    beat(x, 0, 0, 2);
    beat(x, 0, 0, 0);
    beat(x, 1, 0, 1);
    beat(x, 1, 0, 1);
    beat(x, 0, 0, 2);
    x = run("output x;loop present not pre x then emit x end;pause end");
    beat(x, 0, 0, 1);
    beat(x, 0, 0, 0);
    beat(x, 0, 0, 1);
    section = "c";
    x = run("input a;input b;input c;output x;loop present a or b and not c then emit x end;pause end");
    for (int move = 0; move < 8; move++) {
      boolean on = (move & 1) != 0 || (move & 2) != 0 && (move & 4) == 0;
      beat(x, move, 0, move | (on ? 8 : 0));
    }
    x = run("input a;input b;output x;loop present not (a or b) and not not not b then emit x end;pause end");
    for (int move = 0; move < 4; move++) beat(x, move, 0, move | (move == 0 ? 4 : 0));
  }

  private static void madeParts() {
    section = "halt, sustain";
    BeatMill x = run("output x;[sustain x||halt]");
    for (int i = 0; i < 4; i++) beat(x, 0, 0, 1);
    due("set", x.told(0, 1), 2);
    section = "await";
    x = run("input a;output x;await a;emit x");
    beat(x, 1, 0, 1);
    beat(x, 0, 0, 0);
    beat(x, 1, 1, 3);
    x = run("input a;output x;await immediate a;emit x;await immediate not a;emit x");
    beat(x, 0, 0, 0);
    beat(x, 1, 0, 3);
    beat(x, 1, 0, 1);
    beat(x, 0, 1, 2);
    section = "abort";
    String body = "abort loop emit x;pause end when a end;emit y;pause";
    x = run("input a;output x;output y;" + body);
    beat(x, 1, 0, 3);
    beat(x, 0, 0, 2);
    beat(x, 1, 0, 5);
    due("set", x.told(0, 1), 1);
    due("paused", x.paused(0, 2), 1);
    beat(x, 0, 1, 0);
    x = run("input a;output x;output y;" + body.replace("when", "when immediate"));
    beat(x, 1, 0, 5);
    x = run("input a;output x;output y;" + body.replace("when", "when immediate"));
    beat(x, 0, 0, 2);
    beat(x, 1, 0, 5);
    section = "weak abort";
    x = run("input a;output x;output y;weak " + body);
    beat(x, 1, 0, 3);
    beat(x, 1, 0, 7);
    x = run("input a;output x;output y;weak " + body.replace("when", "when immediate"));
    beat(x, 1, 0, 7);
    section = "abort that ends by itself";
    x = run("input a;output x;abort pause when a end;emit x;pause");
    beat(x, 0, 0, 0);
    beat(x, 0, 0, 2);
    due("set", x.told(0, 1), 1);
    section = "exit through an abort has the abort's own trap within";
    x = run("input a;output x;output y;trap t in abort pause;exit t when a end;emit x end;emit y");
    beat(x, 0, 0, 0);
    beat(x, 0, 1, 4);
    section = "every: the PAUSES within are killed by the trap that starts them anew";
    x = run("input a;output x;every a do emit x end");
    beat(x, 1, 0, 1);
    due("paused(0, 0)", x.paused(0, 0), 1);
    beat(x, 0, 0, 0);
    beat(x, 1, 0, 3);
    due("paused(0, 0)", x.paused(0, 0), 0);
    due("paused(0, 1), halt", x.paused(0, 1), 1);
    due("paused(0, 2), abort", x.paused(0, 2), 1);
    beat(x, 0, 0, 0);
    beat(x, 1, 0, 3);
    due("set", x.told(0, 1), 0);
    beat(x, 1, 0, 1);
    x = run("input a;output x;every immediate a do emit x;pause end");
    beat(x, 1, 0, 3);
    due("order of PAUSES: await", x.paused(0, 0), 0);
    due("order of PAUSES: p", x.paused(0, 1), 1);
    due("order of PAUSES: halt", x.paused(0, 2), 0);
    due("order of PAUSES: abort", x.paused(0, 3), 1);
  }

  private static void numbers() {
    section = "3 A BEAT, numbers";
    BeatMill x = run("var v:=-7;var w:=2;output x:sum;v:=v/w;emit x(v);v:=-7%w;emit x(v*10);w:=2+3*4-(1-5)%3");
    beat(x, 0, 1, 1);
    due("v", x.variable(0, 0), -1);
    due("x", x.value(0, 0), -13);
    due("w", x.variable(0, 1), 15);
    section = "most, one, sum";
    x = run("output m:most;output s:sum;output o:one;emit m(3);emit m(-4);emit s(3);emit s(-4);emit o(9);pause;emit m(-5);emit s(?m);pause;emit o(1);emit o(1)");
    beat(x, 0, 0, 7);
    due("most", x.value(0, 0), 3);
    due("sum", x.value(0, 1), -1);
    due("one", x.value(0, 2), 9);
    beat(x, 0, 0, 3);
    due("most, anew", x.value(0, 0), -5);
    due("sum, anew", x.value(0, 1), -5);
    due("one stays", x.value(0, 2), 9);
    beat(x, 0, 2, 0);
    due("FAILURE", x.told(0, 4), 3);
    due("at the part", x.told(0, 5), 10);
    due("one, as before", x.value(0, 2), 9);
    section = "RANGE, ZERO";
    failing("var v:=1;v:=1000*1000*1000;v:=v+1", 1, 2, 1);
    failing("var v:=1;v:=-1000*1000*1000;v:=v-1", 1, 2, 1);
    failing("var v:=1;v:=1000*1000*1000+1-1", 1, 2, 0);
    failing("var v:=0;v:=1/v", 0, 1, 0);
    failing("var v:=0;nothing;v:=1%v", 0, 1, 1);
    failing("var v:=0;v:=1000*1000*1001/0", 0, 2, 0);
    failing("var v:=0;v:=1/0*999999", 0, 1, 0);
    failing("var v:=5;output x:sum;v:=6;emit x(1000*1000*1000);emit x(1)", 5, 2, 2);
    x = run("output x:sum;emit x(-999999*1000);emit x(-1000)");
    beat(x, 0, 1, 1);
    due("least", x.value(0, 0), -1000000000);
    section = "order of text, not of branches or of time";
    x = run("signal s:one;var v:=0;[await immediate s;v:=?s||emit s(5)]");
    beat(x, 0, 1, 1);
    due("v", x.variable(0, 0), 0);
    x = run("signal s:one;var v:=0;[emit s(5)||await immediate s;v:=?s]");
    beat(x, 0, 1, 1);
    due("v", x.variable(0, 0), 5);
    section = "if, by the numbers ahead of the beat";
    x = run("input a:one;output x;var v:=0;loop v:=?a;if ?a>3 then emit x end;pause end");
    beat(x, 1, 0, 1, 5);
    due("v", x.variable(0, 0), 5);
    beat(x, 1, 0, 3, 2);
    due("v", x.variable(0, 0), 2);
    beat(x, 0, 0, 0);
    x = run("output x;var v:=0;v:=1;if v=1 then emit x end;pause;if v=1 then emit x end");
    beat(x, 0, 0, 0);
    beat(x, 0, 1, 1);
    String[] relations = {"=", "!=", "<", "<=", ">", ">="};
    for (int r = 0; r < 6; r++) {
      for (int n = 1; n <= 3; n++) {
        boolean[] so = {n == 2, n != 2, n < 2, n <= 2, n > 2, n >= 2};
        x = run("output x;output y;if " + n + relations[r] + "2 then emit x else emit y end");
        beat(x, 0, 1, so[r] ? 1 : 2);
      }
    }
    section = "if that cannot be worked";
    failing("var v:=0;v:=1;if 1/v=1 then nothing end", 0, 1, 1);
    x = run("output x;output y;var v:=0;pause;emit x;if 1/v=1 then nothing else emit y end");
    beat(x, 0, 0, 0);
    beat(x, 0, 2, 0);
    due("FAILURE", x.told(0, 4), 1);
    due("at the part", x.told(0, 5), 2);
    due("set", x.told(0, 1), 1);
    section = "of two that fail the first in order of text";
    x = run("output x;var v:=0;if 1/v=1000*1000*1001 then nothing end;v:=1000*1000*1001");
    beat(x, 0, 2, 0);
    due("FAILURE", x.told(0, 4), 1);
    due("at the part", x.told(0, 5), 0);
    section = "a failure in the first beat: it is ahead of its first beat still";
    x = run("input a:one;output x;var v:=3;emit x;v:=v/?a;pause");
    beat(x, 0, 2, 0);
    due("beats", x.told(0, 0), 0);
    beat(x, 1, 0, 3, 2);
    due("v", x.variable(0, 0), 1);
  }

  private static void promise11to13() {
    section = "promises 11 to 13";
    BeatMill x = run("input a:one;output x:sum;var v:=-999999;present a then emit x(?a*2) end;pause;pause");
    due("present, no beat yet", x.present(0, 0), 0);
    due("variable, at first", x.variable(0, 0), -999999);
    due("value, at first", x.value(0, 1), 0);
    beat(x, 1, 0, 3, 21);
    due("present(0, 2)", x.present(0, 2), BeatMill.BAD);
    due("present(0, -1)", x.present(0, -1), BeatMill.BAD);
    due("present(1, 0)", x.present(1, 0), BeatMill.BAD);
    due("value", x.value(0, 1), 42);
    due("value of the input", x.value(0, 0), 21);
    due("value, none such", x.value(0, 2), 0);
    due("value, none such", x.value(0, -1), 0);
    due("value, none such", x.value(1, 0), 0);
    due("variable, none such", x.variable(0, 1), 0);
    due("variable, none such", x.variable(0, -1), 0);
    due("variable, none such", x.variable(-1, 0), 0);
    beat(x, 0, 0, 0);
    due("value stays", x.value(0, 1), 42);
    beat(x, 1, 1, 1, 3);
    due("beat, refused", x.beat(0), BeatMill.STATE);
    due("present stays", x.present(0, 0), 1);
  }

  private static void promise14() {
    section = "promise 14";
    BeatMill x = run("output x;trap t in [pause||exit t] end;pause;present x then nothing else emit x end");
    for (int what = 0; what < 5; what++) due("wire, before any", x.wire(0, 0, what), 0);
    due("wire(0, 8, 0)", x.wire(0, 8, 0), BeatMill.BAD);
    due("wire(0, -1, 0)", x.wire(0, -1, 0), BeatMill.BAD);
    due("wire(0, 0, 5)", x.wire(0, 0, 5), BeatMill.BAD);
    due("wire(0, 0, -1)", x.wire(0, 0, -1), BeatMill.BAD);
    due("wire(1, 0, 0)", x.wire(1, 0, 0), BeatMill.BAD);
    beat(x, 0, 0, 0);
    wires(x, 0, 1, 0, 1, 0, 0);
    wires(x, 1, 1, 0, 0, 0, 1);
    wires(x, 2, 1, 0, 0, 1, 0);
    wires(x, 3, 1, 0, 0, 0, 1);
    wires(x, 4, 1, 0, 0, 1, 0);
    wires(x, 5, 0, 0, 0, 0, 0);
    beat(x, 0, 3, 0);
    wires(x, 0, 0, 0, 0, 0, 0);
    wires(x, 4, 0, 1, 1, 0, 0);
    wires(x, 5, 1, 0, 2, 0, 0);
    wires(x, 6, 2, 0, 2, 0, 0);
    wires(x, 7, 2, 0, 2, 0, 0);
    x = run("input a;var v:=0;suspend halt when a end;nothing");
    beat(x, 0, 0, 0);
    wires(x, 0, 1, 0, 0, 1, 0);
    beat(x, 1, 0, 1);
    wires(x, 0, 0, 1, 0, 1, 0);
    wires(x, 1, 0, 1, 0, 0, 0);
    beat(x, 0, 0, 0);
    wires(x, 0, 0, 1, 0, 1, 0);
    wires(x, 1, 0, 1, 0, 1, 0);
    wires(x, 2, 0, 0, 0, 0, 0);
    x = run("input a;suspend pause when a end;trap t in pause end;pause");
    beat(x, 1, 0, 1);
    wires(x, 0, 1, 0, 0, 1, 0);
    beat(x, 0, 0, 0);
    wires(x, 0, 0, 1, 1, 0, 0);
    wires(x, 2, 1, 0, 0, 1, 0);
    beat(x, 1, 0, 1);
    wires(x, 0, 0, 0, 0, 0, 0);
    wires(x, 2, 0, 1, 1, 0, 0);
    section = "promise 14, an if that cannot be worked is not so";
    x = run("var v:=0;if 1/v=0 then pause else nothing end");
    beat(x, 0, 2, 0);
    wires(x, 0, 1, 0, 1, 0, 0);
    wires(x, 1, 0, 0, 0, 0, 0);
    wires(x, 2, 1, 0, 1, 0, 0);
    section = "promise 14, of a beat that failed";
    x = run("var v:=0;pause;v:=1/v");
    beat(x, 0, 0, 0);
    beat(x, 0, 2, 0);
    wires(x, 0, 0, 1, 1, 0, 0);
    wires(x, 1, 1, 0, 1, 0, 0);
  }

  private static void promise15and16() {
    section = "promises 15, 16";
    BeatMill x = made("nothing");
    write(x, "input a;var v:=0;[pause;pause||pause];present a then v:=1/v end");
    due("compile()", x.compile(), 1);
    due("governor(1)", x.governor(1), 0);
    tolds(x, 0, 0, 0, -1, 0, -1, 1, 0);
    x.beat(0);
    tolds(x, 1, 2, 0, 0, 0, -1, 1, 0);
    due("paused(0, 0)", x.paused(0, 0), 1);
    due("paused(0, 1)", x.paused(0, 1), 0);
    due("paused(0, 2)", x.paused(0, 2), 1);
    due("paused(0, 3)", x.paused(0, 3), BeatMill.BAD);
    due("paused(0, -1)", x.paused(0, -1), BeatMill.BAD);
    due("paused(1, 0)", x.paused(1, 0), BeatMill.BAD);
    x.beat(0);
    due("paused(0, 1)", x.paused(0, 1), 1);
    x.give(0, 0, true, 0);
    x.beat(0);
    tolds(x, 2, 1, 0, 2, 1, 5, 1, 0);
    x.keep(0);
    x.beat(0);
    tolds(x, 3, 0, 1, 1, 0, -1, 1, 1);
    due("beat, refused", x.beat(0), BeatMill.STATE);
    tolds(x, 3, 0, 1, 1, 0, -1, 1, 1);
    due("told(0, 8)", x.told(0, 8), BeatMill.BAD);
    due("told(0, -1)", x.told(0, -1), BeatMill.BAD);
    due("told(1, 0)", x.told(1, 0), BeatMill.BAD);
  }

  private static void promise17to19() {
    section = "promises 17, 18";
    BeatMill x = run("input a:one;output x;var v:=1;loop v:=v*2;present pre a then emit x end;pause end");
    due("back, not kept", x.back(0), BeatMill.STATE);
    due("back(1)", x.back(1), BeatMill.BAD);
    due("keep(1)", x.keep(1), BeatMill.BAD);
    due("keep", x.keep(0), 1);
    beat(x, 1, 0, 1, 7);
    due("keep", x.keep(0), 2);
    beat(x, 0, 0, 2);
    due("keep", x.keep(0), 3);
    due("keep", x.keep(0), BeatMill.FULL);
    beat(x, 1, 0, 1, 8);
    due("v", x.variable(0, 0), 8);
    due("back", x.back(0), 2);
    due("v", x.variable(0, 0), 4);
    due("back", x.back(0), 1);
    due("v", x.variable(0, 0), 2);
    due("?a", x.value(0, 0), 7);
    tolds(x, 1, 1, 0, -1, 0, -1, 0, 1);
    due("present", x.present(0, 0), 0);
    for (int what = 0; what < 5; what++) due("wire", x.wire(0, 0, what), 0);
    x.give(0, 0, true, 9);
    due("keep", x.keep(0), 2);
    due("back", x.back(0), 1);
    beat(x, 0, 0, 2);
    due("?a, what was given is gone", x.value(0, 0), 7);
    due("back", x.back(0), 0);
    due("back, not kept", x.back(0), BeatMill.STATE);
    tolds(x, 0, 0, 0, -1, 0, -1, 0, 0);
    beat(x, 0, 0, 0);
    due("v", x.variable(0, 0), 2);
    x = run("pause");
    beat(x, 0, 0, 0);
    due("keep", x.keep(0), 1);
    beat(x, 0, 1, 0);
    due("keep, ended", x.keep(0), 2);
    due("back, ended", x.back(0), 1);
    due("ended", x.told(0, 2), 1);
    due("back", x.back(0), 0);
    due("ended", x.told(0, 2), 0);
    beat(x, 0, 1, 0);
    section = "promise 19";
    x = run("input a:one;input b;var v:=0;loop present b then v:=1 end;pause end");
    due("governor", x.governor(0), 1);
    write(x, "pause");
    due("compile", x.compile(), 1);
    due("governor", x.governor(1), 2);
    due("same(0, 2)", x.same(0, 2), BeatMill.STATE);
    due("same(0, 3)", x.same(0, 3), BeatMill.BAD);
    due("same(-1, 2)", x.same(-1, 2), BeatMill.BAD);
    due("same(0, 0)", x.same(0, 0), 1);
    due("same(0, 1)", x.same(0, 1), 1);
    x.beat(0);
    due("same, first beat or not", x.same(0, 1), 0);
    x.beat(1);
    due("same", x.same(0, 1), 1);
    x.beat(1);
    due("same, how many beats is all one", x.same(0, 1), 1);
    x.give(0, 0, true, 0);
    due("same, what is given is all one", x.same(0, 1), 1);
    x.beat(0);
    due("same, a was present", x.same(0, 1), 0);
    x.beat(0);
    due("same", x.same(0, 1), 1);
    x.give(0, 0, true, 4);
    x.beat(0);
    x.beat(0);
    due("same, ?a", x.same(0, 1), 0);
    x.give(1, 0, true, 4);
    x.beat(1);
    x.beat(1);
    due("same", x.same(0, 1), 1);
    x.give(1, 1, true, 0);
    x.beat(1);
    x.beat(1);
    due("same, v", x.same(0, 1), 0);
    x = run("input a;[present a then pause else nothing end||trap t in pause end]");
    x.governor(0);
    x.beat(0);
    x.give(1, 0, true, 0);
    x.beat(1);
    due("same, PAUSES", x.same(0, 1), 0);
    x = run("input a;present a then nothing else trap t in [exit t||pause] end;loop trap u in pause;exit u end end end");
    x.governor(0);
    x.beat(0);
    x.beat(0);
    x.beat(0);
    x.give(1, 0, true, 0);
    x.beat(1);
    x.keep(1);
    due("ended", x.told(1, 2), 1);
    due("not ended", x.told(0, 2), 0);
    due("no PAUSE is set", x.told(0, 1), 0);
    due("same, ended or not", x.same(0, 1), 0);
  }

  private static void promise20to23() {
    section = "promises 20 to 23";
    BeatMill x = made("input a;output x;loop pause;present a then emit x end end");
    due("search(1)", x.search(1), BeatMill.BAD);
    due("search(-1)", x.search(-1), BeatMill.BAD);
    due("move, ahead of search()", x.move(0, 1, 1, 1), 3);
    due("search(0)", x.search(0), 2);
    due("search(0)", x.search(0), 2);
    int[][] want = {{1, 0}, {1, 1}, {1, 0}, {1, 3}};
    for (int i = 0; i < 4; i++) {
      due("move, to", x.move(0, i / 2, i % 2, 0), want[i][0]);
      due("move, shown", x.move(0, i / 2, i % 2, 1), want[i][1]);
    }
    due("move, what", x.move(0, 0, 0, 2), -9);
    due("move, what", x.move(0, 0, 0, -1), -9);
    due("move, move", x.move(0, 0, 2, 0), -9);
    due("move, move", x.move(0, 0, -1, 0), -9);
    due("move, state", x.move(0, 2, 0, 0), -9);
    due("move, state", x.move(0, -1, 0, 0), -9);
    due("move, module", x.move(1, 0, 0, 0), -9);
    due("classOf(0, 0)", x.classOf(0, 0), 0);
    due("classOf(0, 1)", x.classOf(0, 1), 1);
    due("classOf(0, 2)", x.classOf(0, 2), -9);
    due("classOf(0, -1)", x.classOf(0, -1), -9);
    due("classOf(1, 0)", x.classOf(1, 0), -9);
    section = "promise 23";
    x = made("input a;input b;loop await a;pause end");
    // 0: first, 1: awaiting, 2: the pause; the await that follows in the loop is begun unkilled
    due("search", x.search(0), 3);
    due("move(0, 1, 1, 0)", x.move(0, 1, 1, 0), 2);
    due("move(0, 1, 3, 0)", x.move(0, 1, 3, 0), 2);
    due("move(0, 2, 0, 0)", x.move(0, 2, 0, 0), 1);
    due("way(0, 0, NONE)", x.way(0, 0, -1), 0);
    due("way(0, 0, 0)", x.way(0, 0, 0), -9);
    due("way(0, 2, NONE)", x.way(0, 2, -1), 2);
    due("way(0, 2, 0)", x.way(0, 2, 0), 0);
    due("way(0, 2, 1)", x.way(0, 2, 1), 1);
    due("way(0, 2, 2)", x.way(0, 2, 2), -9);
    due("way(0, 2, -2)", x.way(0, 2, -2), -9);
    due("way(0, 3, NONE)", x.way(0, 3, -1), -9);
    due("way(1, 0, NONE)", x.way(1, 0, -1), -9);
    due("classOf, no outputs", x.classOf(0, 2), 0);
    section = "classes";
    x = made("halt");
    due("search", x.search(0), 2);
    due("classOf(0, 1)", x.classOf(0, 1), 0);
    x = made("pause;pause;pause");
    due("search", x.search(0), 4);
    for (int s = 0; s < 4; s++) {
      due("classOf", x.classOf(0, s), s);
      due("move", x.move(0, s, 0, 0), s == 3 ? BeatMill.NONE : s + 1);
      due("way", x.way(0, s, -1), s);
    }
    x = made("output x;loop emit x;pause;emit x;pause end");
    due("search", x.search(0), 3);
    for (int s = 0; s < 3; s++) due("classOf", x.classOf(0, s), 0);
    x = made("signal x;loop emit x;pause;pause end");
    due("classes look at outputs alone", x.classOf(0, 2), 0);
    x = made("input a;output x;present a then pause;emit x else pause end");
    due("search", x.search(0), 3);
    due("what ends has the same outputs, too", x.classOf(0, 2), 2);
    x = made("input a;output x;present a then pause;emit x else pause;emit x end");
    due("search", x.search(0), 3);
    due("classOf", x.classOf(0, 2), 1);
  }

  private static void searchEdges() {
    section = "4 A SEARCH, pre";
    BeatMill x = made("input a;output x;loop present pre a then emit x end;pause end");
    due("search", x.search(0), 3);
    int[] to = {1, 2, 1, 2, 1, 2};
    int[] shown = {0, 1, 0, 1, 2, 3};
    for (int i = 0; i < 6; i++) {
      due("move, to", x.move(0, i / 2, i % 2, 0), to[i]);
      due("move, shown", x.move(0, i / 2, i % 2, 1), shown[i]);
    }
    due("classOf(0, 1)", x.classOf(0, 1), 0);
    due("classOf(0, 2)", x.classOf(0, 2), 2);
    section = "4 A SEARCH, stuck";
    x = made("input a;output x;loop present a then present x then emit x end end;pause end");
    due("search", x.search(0), 2);
    due("move, stuck", x.move(0, 0, 1, 0), BeatMill.STATE);
    due("move, stuck", x.move(0, 0, 1, 1), 0);
    due("move", x.move(0, 0, 0, 0), 1);
    section = "4 A SEARCH, ifs";
    x = made("output x;output y;input a;var v:=0;if 1=2 then emit x else if v=1/0 then emit y end end;present a then pause end");
    due("search", x.search(0), 2);
    int[] shows = {0, 4, 1, 5, 2, 6, 1, 5};
    for (int move = 0; move < 8; move++) {
      due("move, shown", x.move(0, 0, move, 1), shows[move]);
      due("move, to", x.move(0, 0, move, 0), move % 2 == 1 ? 1 : BeatMill.NONE);
    }
    due("search of that runs no governor", x.count(1), 0);
    section = "4 A SEARCH, beyond by MOVES";
    String four = "input a;input b;input c;input d;";
    x = made(four + "if 1=1 then nothing end;pause");
    due("search", x.search(0), 2);
    due("move 31", x.move(0, 0, 31, 1), 15);
    due("move 32", x.move(0, 0, 32, 1), -9);
    x = made(four + "if 1=1 then nothing end;pause;if 1=1 then nothing end");
    due("search", x.search(0), BeatMill.BEYOND);
    due("move", x.move(0, 0, 0, 0), -9);
    due("classOf", x.classOf(0, 0), -9);
    due("way", x.way(0, 0, -1), -9);
    due("never", x.never(0, 0), -9);
    due("always", x.always(0, 0, 0), -9);
    due("against(0)", x.against(0), -1);
    section = "4 A SEARCH, beyond by STATES";
    String ring = "[loop " + times(4, "pause;") + "pause end||loop " + times(8, "pause;") + "pause end]";
    x = made("pause;pause;" + ring);
    due("search", x.search(0), 48);
    due("way", x.way(0, 47, -1), 47);
    due("move", x.move(0, 47, 0, 0), 3);
    x = made("pause;pause;pause;" + ring);
    due("search", x.search(0), BeatMill.BEYOND);
    due("search", x.search(0), BeatMill.BEYOND);
    due("classOf", x.classOf(0, 0), -9);
    due("move", x.move(0, 0, 0, 0), -9);
    section = "4 A SEARCH beside governors that run";
    x = run("input a;output x;loop pause;present a then emit x end end");
    beat(x, 1, 0, 1);
    due("search", x.search(0), 2);
    beat(x, 1, 0, 3);
    due("told(0, 0)", x.told(0, 0), 2);
  }

  private static void promise24to26() {
    section = "promises 24 to 26";
    BeatMill x = made("input a;output x;output y;output z;signal s;pause;present a then emit x;emit y else emit x end;pause;emit s");
    due("against(0)", x.against(0), -1);
    due("against(1)", x.against(1), -1);
    due("never z", x.never(0, 3), 1);
    due("against(0)", x.against(0), -1);
    due("never s", x.never(0, 4), 0);
    due("against(0), in what ends", x.against(0), 2);
    due("against(1)", x.against(1), 0);
    due("never y", x.never(0, 2), 0);
    due("against(0)", x.against(0), 1);
    due("against(1)", x.against(1), 1);
    due("never z", x.never(0, 3), 1);
    due("against(1) stays", x.against(1), 1);
    due("always y, x", x.always(0, 2, 1), 1);
    due("always y, a", x.always(0, 2, 0), 1);
    due("always z, x", x.always(0, 3, 1), 1);
    due("always x, x", x.always(0, 1, 1), 1);
    due("always x, y", x.always(0, 1, 2), 0);
    due("against(0)", x.against(0), 1);
    due("against(1)", x.against(1), 0);
    due("always a, x", x.always(0, 0, 1), 0);
    due("against(0)", x.against(0), 0);
    due("against(1)", x.against(1), 1);
    due("never, none such", x.never(0, 5), -9);
    due("never, none such", x.never(0, -1), -9);
    due("never, none such", x.never(1, 0), -9);
    due("always, none such", x.always(0, 5, 0), -9);
    due("always, none such", x.always(0, 0, 5), -9);
    due("always, none such", x.always(0, 0, -1), -9);
    due("always, none such", x.always(-1, 0, 0), -9);
    due("against(2)", x.against(2), BeatMill.BAD);
    due("against(-1)", x.against(-1), BeatMill.BAD);
    due("against(0)", x.against(0), 0);
    due("against(1)", x.against(1), 1);
  }

  private static void promise27and28() {
    section = "promises 27, 28";
    BeatMill x = run("input a;pause");
    x.governor(0);
    due("never a", x.never(0, 0), 0);
    write(x, "loop");
    due("count(0)", x.count(0), 1);
    due("count(1)", x.count(1), 2);
    due("count(2)", x.count(2), 4);
    due("count(3)", x.count(3), BeatMill.BAD);
    due("count(-1)", x.count(-1), BeatMill.BAD);
    due("clear()", x.clear(), 1);
    due("clear()", x.clear(), 0);
    due("count(0)", x.count(0), 0);
    due("count(1)", x.count(1), 0);
    due("count(2), the tape stays", x.count(2), 4);
    due("beat(0)", x.beat(0), BeatMill.BAD);
    due("search(0)", x.search(0), BeatMill.BAD);
    write(x, " pause end");
    due("compile()", x.compile(), 0);
    due("governor(0)", x.governor(0), 0);
    due("beat(0)", x.beat(0), 0);
  }

  /** Any arguments in any state are answered: nothing is thrown. */
  private static void anyArguments() {
    section = "any arguments";
    int[] odd = {MIN, MIN + 1, -1000000001, -33, -2, -1, 0, 1, 2, 3, 4, 5, 7, 8, 15, 16, 31, 32, 40, 47, 48, 800, 1000000001, MAX - 1, MAX};
    String[] texts = {"input a:sum;output x:one;var v:=1;loop v:=v+?a;emit x(v);pause end", "halt", "input a;every a do await a end", ""};
    for (int seed = 0; seed < 500; seed++) {
      Random random = new Random(seed);
      BeatMill x = new BeatMill();
      try {
        for (int i = 0; i < 300; i++) {
          int[] n = new int[4];
          for (int k = 0; k < 4; k++) n[k] = random.nextInt(3) == 0 ? odd[random.nextInt(odd.length)] : random.nextInt(3);
          anyCall(x, random, n, texts[random.nextInt(4)]);
        }
      } catch (RuntimeException e) {
        wrong++;
        System.out.println("seed " + seed + " threw " + e);
      }
    }
  }

  private static void anyCall(BeatMill x, Random random, int[] n, String text) {
    switch (random.nextInt(28)) {
      case 0: x.feed(random.nextInt(), n[0], n[1], n[2], n[3]); break;
      case 1: x.end(n[0]); break;
      case 2: write(x, text); x.compile(); break;
      case 3: x.compile(); break;
      case 4: x.module(n[0], n[1]); break;
      case 5: x.part(n[0], n[1]); break;
      case 6: x.governor(n[0]); break;
      case 7: x.give(n[0], n[1], random.nextBoolean(), n[2]); break;
      case 8: case 9: x.beat(n[0]); break;
      case 10: x.present(n[0], n[1]); break;
      case 11: x.value(n[0], n[1]); break;
      case 12: x.variable(n[0], n[1]); break;
      case 13: x.wire(n[0], n[1], n[2]); break;
      case 14: x.told(n[0], n[1]); break;
      case 15: x.paused(n[0], n[1]); break;
      case 16: x.keep(n[0]); break;
      case 17: x.back(n[0]); break;
      case 18: x.same(n[0], n[1]); break;
      case 19: x.search(n[0]); break;
      case 20: x.move(n[0], n[1], n[2], n[3]); break;
      case 21: x.classOf(n[0], n[1]); break;
      case 22: x.way(n[0], n[1], n[2]); break;
      case 23: x.never(n[0], n[1]); break;
      case 24: x.always(n[0], n[1], n[2]); break;
      case 25: x.against(n[0]); break;
      case 26: x.count(n[0]); break;
      default: if (random.nextInt(20) == 0) x.clear();
    }
  }
}
