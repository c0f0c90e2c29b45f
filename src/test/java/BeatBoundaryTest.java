/** The sentences of the document on beats (parts 2 and 3 of its terms, promises 8 to 19) that name a boundary case, a test for each. */
public final class BeatBoundaryTest extends Bench {
  private static final int MOST = 1000000000;
  /** In each beat: present b is STUCK, present c fails; x is whether a was present in the beat before. */
  private static final String TROUBLED = "input a:one;input b;input c;output x;output y;signal s:sum;var v:=0;var w:=0;"
    + "loop w:=w+1;emit s(w);present b then present y then emit y end end;present c then w:=1/v end;present pre a then emit x end;pause end";

  public static void main(String[] args) {
    madeParts();
    pauses();
    wiresOfParts();
    conditions();
    stuckAndFailed();
    sums();
    signalNumbers();
    ifs();
    governors();
    looking();
    keeping();
    sameness();
    finish(edges + " boundary sentences on beats hold");
  }

  private static void madeParts() {
    edge("Terms 2: halt: loop pause end", () -> {
      BeatMill x = run("output x;halt;emit x");
      for (int i = 0; i < 5; i++) beat(x, 0, 0, 0);
      due("paused(0, 0)", x.paused(0, 0), 1);
    });
    edge("Terms 2: sustain S: in its first beat and in each one behind", () -> {
      BeatMill x = run("output x;pause;sustain x");
      beat(x, 0, 0, 0);
      for (int i = 0; i < 3; i++) beat(x, 0, 0, 1);
    });
    edge("Terms 2: await c: not by the beat in which it begins", () -> {
      BeatMill x = run("input a;output x;await a;emit x");
      beat(x, 1, 0, 1);
      beat(x, 0, 0, 0);
      beat(x, 1, 1, 3);
    });
    edge("Terms 2: await immediate c: also by the beat in which it begins", () -> {
      BeatMill x = run("input a;output x;await immediate a;emit x");
      beat(x, 1, 1, 3);
      x = run("input a;output x;await immediate a;emit x");
      beat(x, 0, 0, 0);
      beat(x, 1, 1, 3);
    });
    edge("Terms 2: abort p when c: not by the beat in which it begins, and p does not work in the beat of c", () -> {
      BeatMill x = run("input a;output x;output y;abort sustain x when a end;emit y");
      beat(x, 1, 0, 3);
      beat(x, 0, 0, 2);
      beat(x, 1, 1, 5);
      x = run("input a;output x;output y;abort emit x when a end;emit y");
      beat(x, 1, 1, 7);
    });
    edge("Terms 2: abort p when immediate c: p does not begin in a beat of c", () -> {
      BeatMill x = run("input a;output x;output y;abort sustain x when immediate a end;emit y");
      beat(x, 1, 1, 5);
      x = run("input a;output x;output y;abort sustain x when immediate a end;emit y");
      beat(x, 0, 0, 2);
      beat(x, 1, 1, 5);
    });
    edge("Terms 2: weak abort p when c: not by the beat in which it begins, and p works in the beat of c", () -> {
      BeatMill x = run("input a;output x;output y;weak abort sustain x when a end;emit y");
      beat(x, 1, 0, 3);
      beat(x, 0, 0, 2);
      beat(x, 1, 1, 7);
    });
    edge("Terms 2: weak abort with immediate: also by the beat in which it begins, in which p works", () -> {
      BeatMill x = run("input a;output x;output y;weak abort sustain x when immediate a end;emit y");
      beat(x, 1, 1, 7);
      x = run("input a;output x;output y;weak abort sustain x when immediate a end;emit y");
      beat(x, 0, 0, 2);
      beat(x, 1, 1, 7);
    });
    edge("Terms 2: every c do p end: not by the beat in which it begins; it does not end", () -> {
      BeatMill x = run("input a;output x;output y;every a do emit x end;emit y");
      beat(x, 1, 0, 1);
      beat(x, 1, 0, 3);
      beat(x, 0, 0, 0);
      beat(x, 1, 0, 3);
    });
    edge("Terms 2: every with immediate: also by the beat in which it begins", () -> {
      BeatMill x = run("input a;output x;every immediate a do emit x end");
      beat(x, 1, 0, 3);
      beat(x, 0, 0, 0);
      beat(x, 1, 0, 3);
    });
    edge("Terms 2: X is a trap of its own: an exit of one around goes through it", () -> {
      for (String head : new String[] {"abort pause;exit t when a end", "weak abort pause;exit t when a end", "weak abort pause;exit t when immediate a end", "abort pause;exit t when immediate a end"}) {
        BeatMill x = run("input a;output x;output y;trap t in " + head + ";emit x end;emit y");
        beat(x, 0, 0, 0);
        beat(x, 0, 1, 4);
      }
      BeatMill x = run("input a;output x;output y;trap t in every immediate a do pause;exit t end end;emit y");
      beat(x, 1, 0, 1);
      beat(x, 0, 1, 4);
    });
  }

  private static void pauses() {
    edge("Terms 2: PAUSES are in order as they stand in these texts", () -> {
      BeatMill x = run("input a;output x;[pause||halt||sustain x||await a||abort pause when a end||weak abort pause when a end]");
      beat(x, 0, 0, 2);
      for (int k = 0; k < 8; k++) due("paused(0, " + k + ")", x.paused(0, k), 1);
      beat(x, 0, 0, 2);
      // the pause, and both aborts with the pauses within, have ended
      int[] left = {0, 1, 1, 1, 0, 0, 0, 0};
      for (int k = 0; k < 8; k++) due("paused(0, " + k + ")", x.paused(0, k), left[k]);
      x = run("input a;every immediate a do pause;pause end");
      beat(x, 0, 0, 0);
      int[][] want = {{1, 0, 0, 0, 0}, {0, 1, 0, 0, 1}, {0, 0, 1, 0, 1}, {0, 0, 0, 1, 1}};
      for (int i = 0; i < 4; i++) {
        if (i > 0) beat(x, i == 1 ? 1 : 0, 0, i == 1 ? 1 : 0);
        for (int k = 0; k < 5; k++) due("paused(0, " + k + ")", x.paused(0, k), want[i][k]);
      }
    });
    edge("Terms 2: all 24 PAUSES are SET at once", () -> {
      String eight = "[" + times(7, "pause||") + "pause]";
      BeatMill x = run("output x;[" + eight + "||" + eight + "||" + eight + "];emit x");
      beat(x, 0, 0, 0);
      due("told(0, 1)", x.told(0, 1), 24);
      due("paused(0, 0)", x.paused(0, 0), 1);
      due("paused(0, 23)", x.paused(0, 23), 1);
      due("paused(0, 24)", x.paused(0, 24), BeatMill.BAD);
      due("search", x.search(0), 2);
      beat(x, 0, 1, 1);
      due("told(0, 1)", x.told(0, 1), 0);
    });
    edge("Terms 2: a PAUSE is SET if not KILL", () -> {
      BeatMill x = run("trap t in [pause||exit t||halt] end;pause");
      beat(x, 0, 0, 0);
      due("told(0, 1)", x.told(0, 1), 1);
      due("paused(0, 2)", x.paused(0, 2), 1);
      x = run("input a;weak abort suspend halt when a end when a end");
      beat(x, 0, 0, 0);
      due("told(0, 1)", x.told(0, 1), 2);
      beat(x, 1, 1, 1);
      due("told(0, 1), SUSP and KILL", x.told(0, 1), 0);
    });
    edge("Terms 2: a PAUSE is SET if GO", () -> {
      BeatMill x = run("pause;pause");
      beat(x, 0, 0, 0);
      due("paused(0, 0)", x.paused(0, 0), 1);
      due("paused(0, 1)", x.paused(0, 1), 0);
      beat(x, 0, 0, 0);
      due("paused(0, 0)", x.paused(0, 0), 0);
      due("paused(0, 1)", x.paused(0, 1), 1);
    });
    edge("Terms 2: a PAUSE is SET if SUSP and SET, not if SUSP alone", () -> {
      BeatMill x = run("input a;suspend [pause;pause||halt] when a end");
      beat(x, 1, 0, 1);
      for (int i = 0; i < 3; i++) {
        beat(x, 1, 0, 1);
        due("paused(0, 0)", x.paused(0, 0), 1);
        due("paused(0, 1)", x.paused(0, 1), 0);
        due("paused(0, 2)", x.paused(0, 2), 1);
      }
      beat(x, 0, 0, 0);
      due("paused(0, 0)", x.paused(0, 0), 0);
      due("paused(0, 1)", x.paused(0, 1), 1);
    });
  }

  private static void wiresOfParts() {
    edge("Terms 2: the module's GO is 1 in a governor's first beat, RES in others", () -> {
      BeatMill x = run("loop pause;nothing end");
      beat(x, 0, 0, 0);
      wires(x, 0, 1, 0, 0, 1, 0);
      wires(x, 1, 1, 0, 0, 1, 0);
      wires(x, 2, 0, 0, 0, 0, 0);
      beat(x, 0, 0, 0);
      wires(x, 0, 0, 1, 0, 1, 0);
      wires(x, 1, 1, 1, 1, 1, 0);
      wires(x, 2, 1, 0, 1, 0, 0);
    });
    edge("Terms 2: GO still, when the first beat was STUCK or FAILED", () -> {
      BeatMill x = run(TROUBLED);
      beat(x, 2, 3, 0);
      beat(x, 4, 2, 0);
      beat(x, 0, 0, 32);
      wires(x, 0, 1, 0, 0, 1, 0);
      due("told(0, 0)", x.told(0, 0), 1);
    });
    edge("Terms 2: SEL (a PAUSE of it is SET): of those without one never", () -> {
      BeatMill x = run("[halt||nothing]");
      beat(x, 0, 0, 0);
      beat(x, 0, 0, 0);
      wires(x, 0, 0, 1, 0, 1, 0);
      wires(x, 1, 0, 1, 0, 1, 0);
      wires(x, 2, 0, 0, 0, 0, 0);
    });
    edge("Terms 2: present, if without else: K0 also has GO and not c", () -> {
      for (String head : new String[] {"present a", "if 1=2"}) {
        BeatMill x = run("input a;" + head + " then pause end");
        beat(x, 0, 1, 0);
        wires(x, 0, 1, 0, 1, 0, 0);
        wires(x, 1, 0, 0, 0, 0, 0);
      }
    });
    edge("Terms 2: a branch is GONE if the \"[\" has SEL and RES, but the branch has no SEL", () -> {
      BeatMill x = run("output x;[pause||pause;pause||nothing];emit x");
      beat(x, 0, 0, 0);
      wires(x, 0, 1, 0, 0, 1, 0);
      beat(x, 0, 0, 0);
      wires(x, 0, 0, 1, 0, 1, 0);
      due("told(0, 1)", x.told(0, 1), 1);
      beat(x, 0, 1, 1);
      wires(x, 0, 0, 1, 1, 0, 0);
    });
    edge("Terms 2: a \"[\" of one branch, and of eight", () -> {
      BeatMill x = run("output x;[pause;emit x]");
      beat(x, 0, 0, 0);
      beat(x, 0, 1, 1);
      x = run("output x;[nothing||pause||nothing||nothing||nothing||nothing||nothing||pause;pause];emit x");
      beat(x, 0, 0, 0);
      beat(x, 0, 0, 0);
      beat(x, 0, 1, 1);
    });
    edge("Terms 2: of exits the one of the trap farther around", () -> {
      BeatMill x = run("output x;output y;output z;trap r in trap s in trap t in [exit t||exit r||exit s||pause] end;emit x end;emit y end;emit z");
      beat(x, 0, 1, 4);
      wires(x, 0, 1, 0, 1, 0, 0);
      wires(x, 1, 1, 0, 0, 0, 1);
      wires(x, 2, 1, 0, 0, 0, 0);
      wires(x, 4, 1, 0, 0, 0, 1);
      wires(x, 5, 1, 0, 0, 0, 0);
    });
    edge("Terms 2: loop: K0 = 0, others its", () -> {
      BeatMill x = run("trap t in loop trap u in exit t end end end");
      beat(x, 0, 1, 0);
      wires(x, 0, 1, 0, 1, 0, 0);
      wires(x, 1, 1, 0, 0, 0, 1);
      wires(x, 2, 1, 0, 0, 0, 1);
      wires(x, 3, 1, 0, 0, 0, 0);
      x = run("input a;trap t in loop [await a||trap u in exit t end] end end");
      beat(x, 0, 1, 0);
      wires(x, 1, 1, 0, 0, 0, 1);
    });
    edge("Terms 2: CODES 2 + d: fifteen traps, the outermost and the innermost left", () -> {
      for (int left = 0; left < 15; left += 7) {
        StringBuilder text = new StringBuilder("output x;output y;signal s;");
        for (int i = 0; i < 15; i++) text.append("trap t").append((char) ('a' + i)).append(" in ");
        text.append("exit t").append((char) ('a' + left)).append(times(14 - left, " end;emit x")).append(" end;emit y");
        text.append(times(left, " end"));
        BeatMill x = run(text.toString());
        beat(x, 0, 1, 2);
        wires(x, left, 1, 0, 1, 0, 0);
        if (left < 14) wires(x, left + 1, 1, 0, 0, 0, 1);
        wires(x, 15, 1, 0, 0, 0, left == 14 ? 1 : 0);
      }
    });
    edge("Terms 2: nothing is known that need not be", () -> {
      BeatMill x = run("output x;output y;present x then emit x end;pause;emit y");
      beat(x, 0, 3, 0);
      wires(x, 0, 1, 0, 2, 0, 0);
      wires(x, 1, 2, 0, 2, 0, 0);
      wires(x, 2, 2, 0, 0, 2, 0);
      wires(x, 3, 0, 0, 0, 0, 0);
      x = run("output x;output y;[present x then emit y else emit y end||present y then emit x end]");
      beat(x, 0, 3, 0);
      x = run("output x;output y;[present x then emit y end||present not y then emit x end]");
      beat(x, 0, 3, 0);
    });
    edge("Terms 2: and, or, not of three truths: 0 and what is not known is 0, 1 or it is 1", () -> {
      BeatMill x = run("input a;output x;loop present x and a then emit x end;pause end");
      beat(x, 0, 0, 0);
      beat(x, 1, 3, 0);
      x = run("input a;output x;loop present x or a then emit x end;pause end");
      beat(x, 1, 0, 3);
      beat(x, 0, 3, 0);
      x = run("output x;present x and not x then emit x end");
      beat(x, 0, 3, 0);
      x = run("output x;present x or not x then nothing end;emit x");
      beat(x, 0, 3, 0);
    });
  }

  private static void conditions() {
    edge("Terms 2: pre S: 0 in the first", () -> {
      BeatMill x = run("input a;output x;output y;loop present pre a then emit x else emit y end;pause end");
      beat(x, 1, 0, 5);
      beat(x, 0, 0, 2);
      beat(x, 0, 0, 4);
    });
    edge("Terms 2: pre S: whether S was present in the beat before: each of sixteen signals", () -> {
      StringBuilder text = new StringBuilder("input a;");
      for (int i = 1; i < 16; i++) text.append("output s").append((char) ('a' + i)).append(';');
      text.append("loop present pre a then emit sb end;");
      for (int i = 1; i < 15; i++) text.append("present pre s").append((char) ('a' + i)).append(" then emit s").append((char) ('a' + i + 1)).append(" end;");
      BeatMill x = run(text + "pause end");
      beat(x, 1, 0, 1);
      for (int i = 1; i < 16; i++) beat(x, 0, 0, 1 << i);
      beat(x, 0, 0, 0);
    });
    edge("Terms 2: a signal that has no emit is 0", () -> {
      BeatMill x = run("output x;signal s;present s then emit x end");
      beat(x, 0, 1, 0);
    });
    edge("Terms 2: c: or of and of not, ( c )", () -> {
      BeatMill x = run("input a;input b;input c;output x;output y;loop present a or b and not c then emit x end;present not (a or b) and (c or not c) or a and b and c then emit y end;pause end");
      for (int move = 0; move < 8; move++) {
        boolean a = (move & 1) != 0, b = (move & 2) != 0, c = (move & 4) != 0;
        beat(x, move, 0, move | (a || b && !c ? 8 : 0) | (!a && !b || a && b && c ? 16 : 0));
      }
    });
  }

  private static void stuckAndFailed() {
    edge("Terms 3: if a WIRE is not known, it is STUCK: all is as before", () -> {
      BeatMill x = run(TROUBLED);
      beat(x, 1, 0, 33, 5);
      x.give(0, 0, true, 9);
      beat(x, 2, 3, 0);
      tolds(x, 1, 1, 0, 3, 0, -1, 0, 0);
      due("?a", x.value(0, 0), 5);
      due("?s", x.value(0, 5), 1);
      due("w", x.variable(0, 1), 1);
      due("paused(0, 0)", x.paused(0, 0), 1);
      beat(x, 0, 0, 32 + 8);
      due("w", x.variable(0, 1), 2);
    });
    edge("Terms 3: A FAILURE: all is as before, no signal is present", () -> {
      BeatMill x = run(TROUBLED);
      beat(x, 1, 0, 33, 5);
      x.give(0, 0, true, 9);
      beat(x, 4, 2, 0);
      tolds(x, 1, 1, 0, 2, 1, 7, 0, 0);
      due("?a", x.value(0, 0), 5);
      due("?s", x.value(0, 5), 1);
      due("w", x.variable(0, 1), 1);
      due("paused(0, 0)", x.paused(0, 0), 1);
      beat(x, 0, 0, 32 + 8);
      due("w", x.variable(0, 1), 2);
      tolds(x, 2, 1, 0, 0, 0, -1, 0, 0);
    });
    edge("Terms 3: STUCK goes ahead of a FAILURE", () -> {
      BeatMill x = run(TROUBLED);
      beat(x, 6, 3, 0);
      due("told(0, 4)", x.told(0, 4), 0);
    });
    edge("Terms 3: given inputs go behind each beat (also STUCK, FAILED)", () -> {
      BeatMill x = run("input a;input b;input c;output y;var v:=0;loop present b then present y then emit y end end;present c then v:=1/v end;pause end");
      beat(x, 1, 0, 1);
      beat(x, 0, 0, 0);
      beat(x, 3, 3, 0);
      beat(x, 0, 0, 0);
      beat(x, 5, 2, 0);
      beat(x, 0, 0, 0);
    });
    edge("Terms 3: a governor has ENDED when the module's K0 is 1: by its first beat, by a trap, by all branches", () -> {
      beat(run("nothing"), 0, 1, 0);
      beat(run("trap t in [halt||exit t] end"), 0, 1, 0);
      BeatMill x = run("[pause||pause;pause]");
      beat(x, 0, 0, 0);
      beat(x, 0, 0, 0);
      beat(x, 0, 1, 0);
    });
  }

  private static void sums() {
    edge("Terms 3: numbers are -10^9 .. 10^9: both ends are fine", () -> {
      BeatMill x = run("var v:=0;var w:=0;output y:sum;v:=1000*1000*1000;w:=-v;emit y(v);pause;emit y(w);v:=v+0-1+1;w:=w*1/1%(1-w)");
      beat(x, 0, 0, 1);
      due("v", x.variable(0, 0), MOST);
      due("w", x.variable(0, 1), -MOST);
      due("?y", x.value(0, 0), MOST);
      beat(x, 0, 2, 0);
      due("1 - w is beyond", x.told(0, 4), 2);
      x = run("var v:=0;output y:sum;v:=1000*1000*1000;emit y(v);pause;emit y(-v);v:=-v/-1");
      beat(x, 0, 0, 1);
      beat(x, 0, 1, 1);
      due("v", x.variable(0, 0), MOST);
      due("?y", x.value(0, 0), -MOST);
    });
    edge("Terms 3: RANGE (2), by one: + - *", () -> {
      failing("var v:=7;v:=1000*1000*1000+1", 7, 2, 0);
      failing("var v:=7;v:=-1000*1000*1000-1", 7, 2, 0);
      failing("var v:=7;v:=1-(-1000*1000*1000)", 7, 2, 0);
      failing("var v:=7;v:=100000*10001", 7, 2, 0);
      failing("var v:=7;v:=-100000*10001", 7, 2, 0);
    });
    edge("Terms 3: RANGE, if a sum on its way is not", () -> {
      failing("var v:=7;v:=1000*1000*1000+1-1", 7, 2, 0);
      failing("var v:=7;v:=999999*2000/2000", 7, 2, 0);
      failing("var v:=7;v:=0*(1000*1000*1000+1)", 7, 2, 0);
      failing("var v:=7;nothing;if 1000*1000*1001>0 then nothing end", 7, 2, 1);
    });
    edge("Terms 3: RANGE, also where an int wraps around to what would be in range", () -> {
      failing("var v:=7;v:=65536*65536", 7, 2, 0);
      failing("var v:=7;v:=65536*65537", 7, 2, 0);
      failing("var v:=7;v:=-65536*65536", 7, 2, 0);
      failing("var v:=7;v:=999999*999999", 7, 2, 0);
      BeatMill x = run("input a:one;var v:=7;v:=?a*?a;pause");
      beat(x, 1, 2, 0, MOST);
      due("FAILURE", x.told(0, 4), 2);
      beat(x, 1, 2, 0, -MOST);
      beat(x, 1, 0, 1, 31622);
      due("v", x.variable(0, 0), 999950884);
    });
    edge("Terms 3: ZERO (1): / and % by 0", () -> {
      failing("var v:=0;v:=1/v", 0, 1, 0);
      failing("var v:=0;v:=1%v", 0, 1, 0);
      failing("var v:=0;v:=0/0", 0, 1, 0);
      failing("var v:=0;v:=0%(1-1)", 0, 1, 0);
      failing("var v:=0;v:=5/-0", 0, 1, 0);
      failing("var v:=7;nothing;if 1/0=1 then nothing end", 7, 1, 1);
    });
    edge("Terms 3: the first that fails in a sum is the one told", () -> {
      failing("var v:=0;v:=1/0+999999*999999", 0, 1, 0);
      failing("var v:=0;v:=999999*999999+1/0", 0, 2, 0);
      failing("var v:=0;v:=(1-1)*(1/0)", 0, 1, 0);
      failing("var v:=0;if 1/0=999999*999999 then nothing end", 0, 1, 0);
      failing("var v:=0;if 999999*999999=1/0 then nothing end", 0, 2, 0);
    });
    edge("Terms 3: both cut toward 0", () -> {
      BeatMill x = run("var a:=0;var b:=0;var c:=0;var d:=0;var e:=0;var f:=0;a:=7/2;b:=-7/2;c:=7/-2;d:=-7/-2;e:=-7%2;f:=7%-2");
      beat(x, 0, 1, 0);
      int[] want = {3, -3, -3, 3, -1, 1};
      for (int v = 0; v < 6; v++) due("variable(0, " + v + ")", x.variable(0, v), want[v]);
      x = run("var a:=0;var b:=0;var c:=0;a:=1/2;b:=-1/2;c:=-6%3");
      beat(x, 0, 1, 0);
      for (int v = 0; v < 3; v++) due("variable(0, " + v + ")", x.variable(0, v), 0);
    });
    edge("Terms 1: sum: times ahead of + and -, from the left on", () -> {
      BeatMill x = run("var a:=0;var b:=0;var c:=0;var d:=0;var e:=0;var f:=0;a:=2+3*4;b:=20-5-3;c:=100/10/5;d:=7-2*3%4;e:=-2*-(3+1);f:=- -5-(-5)");
      beat(x, 0, 1, 0);
      int[] want = {14, 12, 2, 5, 8, 10};
      for (int v = 0; v < 6; v++) due("variable(0, " + v + ")", x.variable(0, v), want[v]);
    });
    edge("Terms 3: a sum as deep, and as long, as may be", () -> {
      BeatMill x = run("var v:=0;v:=" + times(15, "1+(") + "1" + times(15, ")"));
      beat(x, 0, 1, 0);
      due("v", x.variable(0, 0), 16);
      x = run("var v:=0;v:=" + times(15, "1-2*(") + "1" + times(15, ")"));
      beat(x, 0, 1, 0);
      int want = 1;
      for (int i = 0; i < 15; i++) want = 1 - 2 * want;
      due("v", x.variable(0, 0), want);
      x = run("var v:=0;v:=1" + times(393, "+1"));
      beat(x, 0, 1, 0);
      due("v", x.variable(0, 0), 394);
    });
    edge("Terms 3: a variable has its latest number", () -> {
      BeatMill x = run("var v:=1;var w:=0;v:=v+1;w:=v;v:=v*10;pause;w:=w+v");
      beat(x, 0, 0, 0);
      due("v", x.variable(0, 0), 20);
      due("w", x.variable(0, 1), 2);
      beat(x, 0, 1, 0);
      due("w", x.variable(0, 1), 22);
    });
    edge("Terms 3: parts are gone through in order of text: the first that fails is the one told", () -> {
      failing("var v:=0;var w:=0;[v:=1000*1000*1001||w:=1/0]", 0, 2, 1);
      failing("var v:=0;var w:=0;[v:=1/0||w:=1000*1000*1001]", 0, 1, 1);
      failing("var v:=0;nothing;v:=5;if 1/0=0 then nothing end;v:=1000*1000*1001", 0, 1, 2);
      failing("var v:=0;nothing;v:=1000*1000*1001;if 1/0=0 then nothing end", 0, 2, 1);
    });
    edge("Terms 3: those with GO 1 are worked, others not", () -> {
      BeatMill x = run("input a;output y:sum;var v:=0;loop present a then v:=1/0 else emit y(1) end;pause end");
      beat(x, 0, 0, 2);
      beat(x, 1, 2, 0);
      due("told(0, 5)", x.told(0, 5), 2);
      beat(x, 0, 0, 2);
    });
  }

  private static void signalNumbers() {
    edge("Terms 3: ?S is 0 at first", () -> {
      BeatMill x = run("input a:one;output y:sum;signal s:most;var v:=7;v:=?a+?y+?s;pause");
      due("value(0, 0)", x.value(0, 0), 0);
      beat(x, 0, 0, 0);
      due("v", x.variable(0, 0), 0);
    });
    edge("Terms 3: ?S, the latest, of each of sixteen signals", () -> {
      StringBuilder text = new StringBuilder();
      StringBuilder parts = new StringBuilder("emit sa(3)");
      for (int i = 0; i < 16; i++) text.append("output s").append((char) ('a' + i)).append(":one;");
      for (int i = 0; i < 15; i++) parts.append(";emit s").append((char) ('b' + i)).append("(?s").append((char) ('a' + i)).append("+2)");
      BeatMill x = run(text.toString() + parts);
      beat(x, 0, 1, 65535);
      for (int s = 0; s < 16; s++) due("value(0, " + s + ")", x.value(0, s), 3 + 2 * s);
    });
    edge("Terms 3: the latest number of each of six variables", () -> {
      BeatMill x = run("var a:=1;var b:=2;var c:=3;var d:=4;var e:=5;var f:=6;a:=f*2;b:=a+b;c:=b+c;d:=c+d;e:=d+e;f:=e+f;pause;f:=a");
      beat(x, 0, 0, 0);
      int[] want = {12, 14, 17, 21, 26, 32};
      for (int v = 0; v < 6; v++) due("variable(0, " + v + ")", x.variable(0, v), want[v]);
      beat(x, 0, 1, 0);
      due("variable(0, 5)", x.variable(0, 5), 12);
    });
    edge("Terms 3: ?S of an input that is given the one given, from the beat's begin on; the latest behind it", () -> {
      BeatMill x = run("input a:one;var v:=0;loop v:=?a;pause end");
      beat(x, 1, 0, 1, 5);
      due("v", x.variable(0, 0), 5);
      beat(x, 0, 0, 0);
      due("v", x.variable(0, 0), 5);
      beat(x, 1, 0, 1, -MOST);
      due("v", x.variable(0, 0), -MOST);
      due("value(0, 0)", x.value(0, 0), -MOST);
    });
    edge("Terms 3: the first emit of a beat gives S its number, whatever it had", () -> {
      for (String mix : new String[] {"one", "sum", "most"}) {
        BeatMill x = run("output y:" + mix + ";emit y(9);pause;emit y(-4)");
        beat(x, 0, 0, 1);
        due(mix, x.value(0, 0), 9);
        beat(x, 0, 1, 1);
        due(mix, x.value(0, 0), -4);
      }
    });
    edge("Terms 3: others: sum: it is added", () -> {
      BeatMill x = run("output y:sum;[emit y(5)||emit y(-7)||emit y(1)]");
      beat(x, 0, 1, 1);
      due("?y", x.value(0, 0), -1);
    });
    edge("Terms 3: others: most: the greater one stays", () -> {
      BeatMill x = run("output y:most;emit y(-5);emit y(-7);pause;emit y(-7);emit y(-5);pause;emit y(3);emit y(3)");
      beat(x, 0, 0, 1);
      due("?y", x.value(0, 0), -5);
      beat(x, 0, 0, 1);
      due("?y", x.value(0, 0), -5);
      beat(x, 0, 1, 1);
      due("?y", x.value(0, 0), 3);
    });
    edge("Terms 3: others: one: TWICE (3), at the second, with the same number too", () -> {
      failing("output y:one;var v:=0;emit y(1);emit y(1)", 0, 3, 1);
      failing("output y:one;var v:=0;[emit y(1)||nothing||emit y(2)]", 0, 3, 3);
      BeatMill x = run("output y:one;output z:one;emit y(1);emit z(2);pause;emit z(1);emit y(2)");
      beat(x, 0, 0, 3);
      beat(x, 0, 1, 3);
    });
    edge("Terms 3: the sum of an emit is worked ahead of what the signal comes to: its FAILURE, not TWICE", () -> {
      failing("output y:one;var v:=0;emit y(1);emit y(1/v)", 0, 1, 1);
      failing("output y:one;var v:=0;emit y(1);emit y(999999*999999)", 0, 2, 1);
    });
    edge("Terms 3: TWICE of one that failed does not count in the next beat", () -> {
      BeatMill x = run("input a;output y:one;var v:=0;loop emit y(1);present a then v:=1/0 end;pause end");
      beat(x, 1, 2, 0);
      beat(x, 0, 0, 2);
      beat(x, 0, 0, 2);
    });
    edge("Terms 3: RANGE, if what a signal comes to is not", () -> {
      failing("output y:sum;var v:=0;emit y(1000*1000*1000);emit y(1);emit y(-1)", 0, 2, 1);
      failing("output y:sum;var v:=0;emit y(-1000*1000*1000);emit y(-1)", 0, 2, 1);
      BeatMill x = run("output y:sum;emit y(1000*1000*1000);emit y(0);emit y(-1);emit y(1)");
      beat(x, 0, 1, 1);
      due("?y", x.value(0, 0), MOST);
      x = run("output y:most;emit y(1000*1000*1000);emit y(1000*1000*1000)");
      beat(x, 0, 1, 1);
      due("?y", x.value(0, 0), MOST);
    });
    edge("Terms 3: values are worked in order of text, not as signals come about", () -> {
      BeatMill x = run("signal s:sum;var v:=7;[present s then v:=?s end||emit s(5);emit s(6)]");
      beat(x, 0, 1, 1);
      due("v", x.variable(0, 0), 0);
      x = run("signal s:sum;var v:=7;[emit s(5)||present s then v:=?s end||emit s(6)]");
      beat(x, 0, 1, 1);
      due("v", x.variable(0, 0), 5);
      due("?s", x.value(0, 0), 11);
    });
  }

  private static void ifs() {
    edge("Terms 2: an if is so by the numbers ahead of the beat, of variables and of signals", () -> {
      BeatMill x = run("output x;output y;signal s:sum;var v:=0;loop v:=v+1;emit s(v);if v=1 then emit x end;if ?s=1 then emit y end;pause end");
      beat(x, 0, 0, 4);
      beat(x, 0, 0, 7);
      beat(x, 0, 0, 4);
    });
    edge("Terms 2: also of inputs that are given", () -> {
      BeatMill x = run("input a:one;output x;loop if ?a=5 then emit x end;pause end");
      beat(x, 1, 0, 1, 5);
      beat(x, 1, 0, 3, 6);
      beat(x, 0, 0, 0);
    });
    edge("Terms 2: 0 if they cannot be worked; they fail now, if they fail: with GO 1 alone", () -> {
      BeatMill x = run("input a;output x;var v:=0;loop present a then if 1/v=0 then nothing else emit x end end;pause end");
      beat(x, 0, 0, 0);
      wires(x, 2, 0, 0, 0, 0, 0);
      beat(x, 1, 2, 0);
      due("told(0, 4)", x.told(0, 4), 1);
      due("told(0, 5)", x.told(0, 5), 2);
      wires(x, 2, 1, 0, 1, 0, 0);
      wires(x, 3, 0, 0, 0, 0, 0);
      wires(x, 4, 1, 0, 1, 0, 0);
      beat(x, 0, 0, 0);
    });
    edge("Terms 3: an if fails by its own sums alone", () -> {
      BeatMill x = run("input a;output x;var v:=0;loop if 1=1 then emit x end;present a then v:=1/0 end;pause end");
      beat(x, 0, 0, 2);
      beat(x, 1, 2, 0);
      due("told(0, 5)", x.told(0, 5), 4);
      x = run("output x;var v:=0;present pre x then v:=1/0 end;if 2=1+1 then emit x end");
      beat(x, 0, 1, 1);
    });
    edge("Terms 3: ifs, whose sums are worked ahead: what a beat gives the variable is all one", () -> {
      BeatMill x = run("output x;var v:=1;v:=0;if 1/v=1 then emit x end;pause;v:=1;if 1/v=1 then emit x end");
      beat(x, 0, 0, 1);
      beat(x, 0, 2, 0);
      due("told(0, 5)", x.told(0, 5), 5);
      due("v", x.variable(0, 0), 0);
    });
    edge("Terms 1: rel: = != < <= > >=, below, at and above", () -> {
      String[] relations = {"=", "!=", "<", "<=", ">", ">="};
      for (int r = 0; r < 6; r++) {
        BeatMill x = run("input a:one;output x;loop if ?a" + relations[r] + "-3 then emit x end;pause end");
        beat(x, 1, 0, r == 1 || r == 4 || r == 5 ? 3 : 1, -4);
        for (int n = -4; n <= -2; n++) {
          boolean[] so = {n == -3, n != -3, n < -3, n <= -3, n > -3, n >= -3};
          beat(x, 1, 0, so[r] ? 3 : 1, n + 1);
        }
      }
    });
  }

  private static void governors() {
    edge("Promise 8: BAD", () -> {
      BeatMill x = made("halt");
      for (int m : new int[] {-1, 1, 4, MIN, MAX}) due("governor(" + m + ")", x.governor(m), BeatMill.BAD);
      due("count(1)", x.count(1), 0);
    });
    edge("Promise 8: FULL (8)", () -> {
      BeatMill x = made("halt");
      add(x, "pause", 1);
      for (int g = 0; g < 8; g++) due("governor", x.governor(g % 2), g);
      due("governor(0)", x.governor(0), BeatMill.FULL);
      due("governor(1)", x.governor(1), BeatMill.FULL);
      due("count(1)", x.count(1), 8);
      x.beat(7);
      due("beat(7)", x.beat(7), 1);
      due("governor(0), one has ENDED", x.governor(0), BeatMill.FULL);
    });
    edge("Promise 8: ahead of its first beat", () -> {
      BeatMill x = run("input a:one;output x;var v:=5;emit x;halt");
      tolds(x, 0, 0, 0, -1, 0, -1, 0, 0);
      due("present(0, 1)", x.present(0, 1), 0);
      due("value(0, 0)", x.value(0, 0), 0);
      due("variable(0, 0)", x.variable(0, 0), 5);
      due("paused(0, 0)", x.paused(0, 0), 0);
      wires(x, 0, 0, 0, 0, 0, 0);
    });
    edge("Promise 9: BAD", () -> {
      BeatMill x = run("input a:one;output x;input b;halt");
      for (int g : new int[] {-1, 1, 8, MIN, MAX}) due("give(" + g + ", ..)", x.give(g, 0, true, 0), BeatMill.BAD);
      for (int i : new int[] {-1, 2, 4, 32, MIN, MAX}) due("give(0, " + i + ", ..)", x.give(0, i, true, 0), BeatMill.BAD);
      beat(x, 0, 0, 0);
      BeatMill none = run("output x;halt");
      due("give, no inputs", none.give(0, 0, true, 0), BeatMill.BAD);
    });
    edge("Promise 9: BAD: also a number that is not -10^9 to 10^9", () -> {
      BeatMill x = run("input a:one;input b;halt");
      for (int v : new int[] {MOST + 1, -MOST - 1, MAX, MIN}) {
        due("give " + v, x.give(0, 0, true, v), BeatMill.BAD);
        due("give " + v + ", not", x.give(0, 0, false, v), BeatMill.BAD);
        due("give " + v + ", without :", x.give(0, 1, true, v), BeatMill.BAD);
      }
      beat(x, 0, 0, 0);
      due("give", x.give(0, 0, true, MOST), 1);
      beat(x, 0, 0, 1);
      due("value(0, 0)", x.value(0, 0), MOST);
      due("give", x.give(0, 0, true, -MOST), 1);
      beat(x, 0, 0, 1);
      due("value(0, 0)", x.value(0, 0), -MOST);
    });
    edge("Promise 9: is given for the next beat, or not: the latest counts", () -> {
      BeatMill x = run("input a:one;input b;halt");
      x.give(0, 0, true, 5);
      x.give(0, 0, true, 6);
      x.give(0, 1, true, 0);
      due("give, not", x.give(0, 1, false, 0), 1);
      due("value(0, 0), ahead of the beat", x.value(0, 0), 0);
      due("present(0, 0), ahead of the beat", x.present(0, 0), 0);
      beat(x, 0, 0, 1);
      due("value(0, 0)", x.value(0, 0), 6);
      x.give(0, 0, true, 7);
      x.give(0, 0, false, 8);
      beat(x, 0, 0, 0);
      due("value(0, 0)", x.value(0, 0), 6);
      x.give(0, 0, false, 8);
      x.give(0, 0, true, 9);
      beat(x, 0, 0, 1);
      due("value(0, 0)", x.value(0, 0), 9);
    });
    edge("Promise 9: which counts if it has a : and is given", () -> {
      BeatMill x = run("input a;input b:sum;halt");
      x.give(0, 0, true, 5);
      x.give(0, 1, false, 5);
      beat(x, 0, 0, 1);
      due("value(0, 0)", x.value(0, 0), 0);
      due("value(0, 1)", x.value(0, 1), 0);
    });
    edge("Promise 9: inputs are numbered in order of text, among other signals: all four", () -> {
      BeatMill x = run("output x;input a:one;signal s;input b:one;var v:=0;input c:one;output y;input d:one;halt");
      for (int i = 0; i < 4; i++) due("give", x.give(0, i, true, 10 + i), 1);
      due("give", x.give(0, 4, true, 0), BeatMill.BAD);
      due("beat(0)", x.beat(0), 0);
      int[] at = {1, 3, 4, 6};
      for (int i = 0; i < 4; i++) due("value", x.value(0, at[i]), 10 + i);
      for (int i = 0; i < 4; i++) due("present", x.present(0, at[i]), 1);
    });
    edge("Promise 9: what is given to one governor is not given to another", () -> {
      BeatMill x = run("input a:one;halt");
      x.governor(0);
      x.give(1, 0, true, 4);
      beat(x, 0, 0, 0);
      due("beat(1)", x.beat(1), 0);
      due("present(1, 0)", x.present(1, 0), 1);
      due("value(0, 0)", x.value(0, 0), 0);
    });
    edge("Promise 9: STATE: it has ENDED", () -> {
      BeatMill x = run("input a;nothing");
      due("give, ahead", x.give(0, 0, true, 0), 1);
      beat(x, 0, 1, 1);
      due("give", x.give(0, 0, true, 0), BeatMill.STATE);
      due("give, not", x.give(0, 0, false, 0), BeatMill.STATE);
    });
    edge("Promise 10: BAD", () -> {
      BeatMill x = run("halt");
      for (int g : new int[] {-1, 1, 8, MIN, MAX}) due("beat(" + g + ")", x.beat(g), BeatMill.BAD);
      due("told(0, 0)", x.told(0, 0), 0);
    });
    edge("Promise 10: STATE: it had ENDED", () -> {
      BeatMill x = run("output x;emit x");
      beat(x, 0, 1, 1);
      for (int i = 0; i < 3; i++) beat(x, 0, BeatMill.STATE, 1);
      tolds(x, 1, 0, 1, 1, 0, -1, 0, 0);
      wires(x, 0, 1, 0, 1, 0, 0);
    });
    edge("Promise 10: not STATE behind beats that FAILED, were STUCK", () -> {
      BeatMill x = run(TROUBLED);
      for (int i = 0; i < 3; i++) {
        beat(x, 2, 3, 0);
        beat(x, 4, 2, 0);
      }
      due("told(0, 0)", x.told(0, 0), 0);
      beat(x, 0, 0, 32);
    });
  }

  private static void looking() {
    edge("Promise 11: BAD", () -> {
      BeatMill x = run("input a;output x;halt");
      for (int g : new int[] {-1, 1, MIN, MAX}) due("present(" + g + ", 0)", x.present(g, 0), BeatMill.BAD);
      for (int s : new int[] {-1, 2, 16, 32, MIN, MAX}) due("present(0, " + s + ")", x.present(0, s), BeatMill.BAD);
    });
    edge("Promise 11: the first and the sixteenth signal; 0 before any", () -> {
      StringBuilder text = new StringBuilder();
      for (int i = 0; i < 16; i++) text.append("output s").append((char) ('a' + i)).append(';');
      BeatMill x = run(text + "emit sa;emit sp;pause;emit so");
      for (int s = 0; s < 16; s++) due("present", x.present(0, s), 0);
      beat(x, 0, 0, 1 | 1 << 15);
      due("present(0, 16)", x.present(0, 16), BeatMill.BAD);
      beat(x, 0, 1, 1 << 14);
    });
    edge("Promise 11: STUCK, FAILED: 0", () -> {
      BeatMill x = run(TROUBLED);
      beat(x, 1, 0, 33);
      beat(x, 3, 3, 0);
      beat(x, 1, 0, 41);
      beat(x, 5, 2, 0);
    });
    edge("Promise 12: 0 of one without :, and if there is none such", () -> {
      BeatMill x = run("input a;output y:sum;input b:one;emit y(3)");
      beat(x, 3, 1, 7, 8, 9);
      due("value(0, 0)", x.value(0, 0), 0);
      due("value(0, 1)", x.value(0, 1), 3);
      due("value(0, 2)", x.value(0, 2), 9);
      for (int s : new int[] {-1, 3, 16, 32, MIN, MAX}) due("value(0, " + s + ")", x.value(0, s), 0);
      for (int g : new int[] {-1, 1, 8, MIN, MAX}) due("value(" + g + ", 1)", x.value(g, 1), 0);
    });
    edge("Promise 12: of the sixteenth signal", () -> {
      StringBuilder text = new StringBuilder();
      for (int i = 0; i < 16; i++) text.append("output s").append((char) ('a' + i)).append(":one;");
      BeatMill x = run(text + "var v:=5;emit sa(1);emit sp(2)");
      beat(x, 0, 1, 1 | 1 << 15);
      due("value(0, 0)", x.value(0, 0), 1);
      due("value(0, 14)", x.value(0, 14), 0);
      due("value(0, 15)", x.value(0, 15), 2);
      due("value(0, 16)", x.value(0, 16), 0);
      due("variable(0, 0)", x.variable(0, 0), 5);
    });
    edge("Promise 13: 0 also: there is none such", () -> {
      BeatMill x = run("var a:=1;var b:=2;var c:=3;var d:=4;var e:=5;var f:=-6;f:=f-1;pause;a:=9");
      beat(x, 0, 0, 0);
      int[] want = {1, 2, 3, 4, 5, -7};
      for (int v = 0; v < 6; v++) due("variable(0, " + v + ")", x.variable(0, v), want[v]);
      for (int v : new int[] {-1, 6, 7, 32, MIN, MAX}) due("variable(0, " + v + ")", x.variable(0, v), 0);
      for (int g : new int[] {-1, 1, 8, MIN, MAX}) due("variable(" + g + ", 0)", x.variable(g, 0), 0);
      BeatMill few = run("signal s:one;var a:=1;nothing");
      due("variable(0, 1)", few.variable(0, 1), 0);
      due("variable(0, -1)", few.variable(0, -1), 0);
    });
    edge("Promise 14: BAD", () -> {
      BeatMill x = run("halt;halt");
      beat(x, 0, 0, 0);
      for (int g : new int[] {-1, 1, MIN, MAX}) due("wire(" + g + ", 0, 0)", x.wire(g, 0, 0), BeatMill.BAD);
      for (int i : new int[] {-1, 2, 40, MIN, MAX}) due("wire(0, " + i + ", 0)", x.wire(0, i, 0), BeatMill.BAD);
      for (int what : new int[] {-1, 5, 16, 32, MIN, MAX}) due("wire(0, 0, " + what + ")", x.wire(0, 0, what), BeatMill.BAD);
    });
    edge("Promise 14: 0 before any", () -> {
      BeatMill x = run("halt");
      wires(x, 0, 0, 0, 0, 0, 0);
      due("wire(0, 1, 0)", x.wire(0, 1, 0), BeatMill.BAD);
    });
    edge("Promise 14: SEL (as it began)", () -> {
      BeatMill x = run("pause;nothing");
      beat(x, 0, 0, 0);
      wires(x, 0, 1, 0, 0, 1, 0);
      beat(x, 0, 1, 0);
      wires(x, 0, 0, 1, 1, 0, 0);
    });
    edge("Promise 14: of the latest beat, also one that was STUCK or FAILED", () -> {
      BeatMill x = run("input a;output x;var v:=0;loop present a then present x then emit x end else v:=1/v end;pause end");
      beat(x, 1, 3, 0);
      wires(x, 1, 1, 0, 2, 0, 0);
      wires(x, 2, 1, 0, 2, 0, 0);
      wires(x, 3, 2, 0, 2, 0, 0);
      wires(x, 4, 0, 0, 0, 0, 0);
      wires(x, 5, 2, 0, 0, 2, 0);
      beat(x, 0, 2, 0);
      wires(x, 1, 1, 0, 1, 0, 0);
      wires(x, 3, 0, 0, 0, 0, 0);
      wires(x, 4, 1, 0, 1, 0, 0);
      wires(x, 5, 1, 0, 0, 1, 0);
    });
    edge("Promise 14: of the fortieth part", () -> {
      BeatMill x = run(times(39, "nothing;") + "nothing");
      beat(x, 0, 1, 0);
      wires(x, 39, 1, 0, 1, 0, 0);
      due("wire(0, 40, 0)", x.wire(0, 40, 0), BeatMill.BAD);
    });
    edge("Promise 15: BAD", () -> {
      BeatMill x = run("halt");
      for (int g : new int[] {-1, 1, MIN, MAX}) due("told(" + g + ", 0)", x.told(g, 0), BeatMill.BAD);
      for (int what : new int[] {-1, 8, MIN, MAX}) due("told(0, " + what + ")", x.told(0, what), BeatMill.BAD);
    });
    edge("Promise 15: 0 beats that went on or ENDED, not others", () -> {
      BeatMill x = run(TROUBLED.replace("pause end", "pause;present a then exit t end end end").replace("loop ", "trap t in loop "));
      beat(x, 2, 3, 0);
      due("told(0, 0)", x.told(0, 0), 0);
      beat(x, 0, 0, 32);
      due("told(0, 0)", x.told(0, 0), 1);
      beat(x, 4, 2, 0);
      due("told(0, 0)", x.told(0, 0), 1);
      beat(x, 1, 1, 1);
      due("told(0, 0)", x.told(0, 0), 2);
      beat(x, 0, BeatMill.STATE, 1);
      due("told(0, 0)", x.told(0, 0), 2);
    });
    edge("Promise 15: 3 what the latest beat() answered (NONE), 4 the FAILURE of the latest beat (0), 5 the part at which it came (NONE)", () -> {
      BeatMill x = run(TROUBLED);
      tolds(x, 0, 0, 0, -1, 0, -1, 0, 0);
      beat(x, 4, 2, 0);
      tolds(x, 0, 0, 0, 2, 1, 7, 0, 0);
      beat(x, 2, 3, 0);
      tolds(x, 0, 0, 0, 3, 0, -1, 0, 0);
      beat(x, 4, 2, 0);
      beat(x, 0, 0, 32);
      tolds(x, 1, 1, 0, 0, 0, -1, 0, 0);
    });
    edge("Promise 15: 6 the module", () -> {
      BeatMill x = made("halt");
      for (int m = 1; m < 4; m++) add(x, "halt", m);
      for (int m = 3; m >= 0; m--) due("governor", x.governor(m), 3 - m);
      for (int g = 0; g < 4; g++) due("told(" + g + ", 6)", x.told(g, 6), 3 - g);
    });
    edge("Promise 16: BAD", () -> {
      BeatMill x = run("halt;halt");
      for (int g : new int[] {-1, 1, MIN, MAX}) due("paused(" + g + ", 0)", x.paused(g, 0), BeatMill.BAD);
      for (int k : new int[] {-1, 2, 24, 32, MIN, MAX}) due("paused(0, " + k + ")", x.paused(0, k), BeatMill.BAD);
      BeatMill none = run("nothing");
      due("paused, no PAUSE", none.paused(0, 0), BeatMill.BAD);
    });
  }

  private static void keeping() {
    edge("Promise 17: how often (3); FULL", () -> {
      BeatMill x = run("var v:=0;loop v:=v+1;pause end");
      for (int i = 1; i <= 3; i++) {
        due("keep(0)", x.keep(0), i);
        due("told(0, 7)", x.told(0, 7), i);
        beat(x, 0, 0, 0);
      }
      due("keep(0)", x.keep(0), BeatMill.FULL);
      due("told(0, 7)", x.told(0, 7), 3);
      due("v", x.variable(0, 0), 3);
      for (int i = 2; i >= 0; i--) {
        due("back(0)", x.back(0), i);
        due("v", x.variable(0, 0), i);
        due("told(0, 0)", x.told(0, 0), i);
      }
      due("back(0)", x.back(0), BeatMill.STATE);
      due("keep(0)", x.keep(0), 1);
    });
    edge("Promise 17: FULL of one governor is not of another", () -> {
      BeatMill x = run("halt");
      x.governor(0);
      for (int i = 1; i <= 3; i++) due("keep(0)", x.keep(0), i);
      due("keep(1)", x.keep(1), 1);
      due("told(1, 7)", x.told(1, 7), 1);
    });
    edge("Promise 17: BAD; Promise 18: BAD", () -> {
      BeatMill x = run("halt");
      for (int g : new int[] {-1, 1, 8, MIN, MAX}) {
        due("keep(" + g + ")", x.keep(g), BeatMill.BAD);
        due("back(" + g + ")", x.back(g), BeatMill.BAD);
      }
    });
    edge("Promise 17: keep changes nothing else: what is given stays, so do WIRES and answers", () -> {
      BeatMill x = run("input a:one;output x;loop emit x;pause end");
      beat(x, 0, 0, 2);
      x.give(0, 0, true, 4);
      x.keep(0);
      tolds(x, 1, 1, 0, 0, 0, -1, 0, 1);
      due("present(0, 1)", x.present(0, 1), 1);
      wires(x, 1, 1, 0, 1, 0, 0);
      beat(x, 0, 0, 3);
      due("value(0, 0)", x.value(0, 0), 4);
    });
    edge("Promise 17: all that a governor is is kept: numbers, PAUSES, what was present, ENDED or not", () -> {
      BeatMill x = run("input a:one;output x;signal s:sum;var v:=1;present a then v:=2;emit s(9) end;pause;present pre a then emit x end;pause");
      beat(x, 1, 0, 5, 3);
      x.keep(0);
      beat(x, 0, 0, 2);
      x.keep(0);
      beat(x, 1, 1, 1, 6);
      x.keep(0);
      due("value(0, 0)", x.value(0, 0), 6);
      due("back", x.back(0), 2);
      due("ENDED", x.told(0, 2), 1);
      due("beat", x.beat(0), BeatMill.STATE);
      due("back", x.back(0), 1);
      due("ENDED", x.told(0, 2), 0);
      due("paused(0, 1)", x.paused(0, 1), 1);
      due("value(0, 0)", x.value(0, 0), 3);
      due("back", x.back(0), 0);
      due("paused(0, 0)", x.paused(0, 0), 1);
      due("value(0, 2)", x.value(0, 2), 9);
      due("variable(0, 0)", x.variable(0, 0), 2);
      beat(x, 0, 0, 2);
    });
    edge("Promise 18: it becomes what was kept latest, also ahead of its first beat", () -> {
      BeatMill x = run("output x;emit x;pause;pause");
      x.keep(0);
      beat(x, 0, 0, 1);
      beat(x, 0, 0, 0);
      due("back", x.back(0), 0);
      tolds(x, 0, 0, 0, -1, 0, -1, 0, 0);
      beat(x, 0, 0, 1);
    });
    edge("Promise 18: what is given goes, too", () -> {
      BeatMill x = run("input a:one;halt");
      x.give(0, 0, true, 1);
      x.keep(0);
      x.give(0, 0, true, 2);
      x.back(0);
      beat(x, 0, 0, 0);
      due("value(0, 0)", x.value(0, 0), 0);
    });
    edge("Promise 18: it is as if no beat had been answered", () -> {
      BeatMill x = run(TROUBLED);
      beat(x, 1, 0, 33, 2);
      x.keep(0);
      beat(x, 5, 2, 0);
      due("back", x.back(0), 0);
      tolds(x, 1, 1, 0, -1, 0, -1, 0, 0);
      for (int s = 0; s < 6; s++) due("present(0, " + s + ")", x.present(0, s), 0);
      for (int i = 0; i < 11; i++) wires(x, i, 0, 0, 0, 0, 0);
      beat(x, 0, 0, 40);
    });
    edge("Promise 18: STATE: it is not kept", () -> {
      BeatMill x = run("input a;output x;emit x;halt");
      x.give(0, 0, true, 0);
      due("back(0)", x.back(0), BeatMill.STATE);
      beat(x, 0, 0, 3);
      due("back(0)", x.back(0), BeatMill.STATE);
      due("told(0, 3)", x.told(0, 3), 0);
      due("present(0, 1)", x.present(0, 1), 1);
      x.keep(0);
      x.back(0);
      due("back(0)", x.back(0), BeatMill.STATE);
    });
  }

  private static void sameness() {
    edge("Promise 19: BAD; STATE: they are of two modules", () -> {
      BeatMill x = run("halt");
      add(x, "halt", 1);
      x.governor(1);
      due("same(0, 1)", x.same(0, 1), BeatMill.STATE);
      due("same(1, 0)", x.same(1, 0), BeatMill.STATE);
      for (int g : new int[] {-1, 2, 8, MIN, MAX}) {
        due("same(" + g + ", 0)", x.same(g, 0), BeatMill.BAD);
        due("same(0, " + g + ")", x.same(0, g), BeatMill.BAD);
        due("same(" + g + ", " + g + ")", x.same(g, g), BeatMill.BAD);
      }
      due("same(1, 1)", x.same(1, 1), 1);
    });
    edge("Promise 19: the same PAUSES SET", () -> {
      BeatMill x = pair("input a;present a then halt else halt end", 0, 1);
      due("same, what was present apart", x.same(0, 1), 0);
      x.beat(1);
      x.beat(0);
      due("same(0, 1)", x.same(0, 1), 0);
      x = pair("input a;present a then halt else halt end", 1, 1);
      due("same(0, 1)", x.same(0, 1), 1);
    });
    edge("Promise 19: ENDED or not, by nothing else apart", () -> {
      // a trap that is left and begun anew in one beat has no PAUSE SET behind it
      BeatMill x = pair("input a;present a then pause else loop trap t in pause;exit t end end end", 1, 0);
      due("beat(0), it ENDS", x.beat(0), 1);
      due("beat(1), it goes on", x.beat(1), 0);
      for (int g = 0; g < 2; g++) {
        due("PAUSES", x.told(g, 1), 0);
        due("present", x.present(g, 0), 0);
      }
      due("same(0, 1)", x.same(0, 1), 0);
      x = pair("input a;present a then pause else pause end", 1, 0);
      due("beat(0), it ENDS", x.beat(0), 1);
      due("beat(1), it ENDS", x.beat(1), 1);
      due("same(0, 1)", x.same(0, 1), 1);
    });
    edge("Promise 19: ahead of their first beat or not; how many beats is all one", () -> {
      BeatMill x = run("loop trap t in pause;exit t end end");
      x.governor(0);
      due("same(0, 1)", x.same(0, 1), 1);
      x.beat(0);
      x.beat(0);
      due("told(0, 1)", x.told(0, 1), 0);
      due("same(0, 1)", x.same(0, 1), 0);
      x.beat(1);
      x.beat(1);
      x.beat(1);
      due("same(0, 1)", x.same(0, 1), 1);
    });
    edge("Promise 19: signals present before", () -> {
      BeatMill x = pair("input a;halt", 0, 1);
      due("same(0, 1)", x.same(0, 1), 0);
      x.beat(0);
      x.beat(1);
      due("same(0, 1)", x.same(0, 1), 1);
    });
    edge("Promise 19: numbers, of signals and of variables", () -> {
      BeatMill x = pair("input a:one;halt", 1, 1);
      due("same(0, 1)", x.same(0, 1), 1);
      x.give(0, 0, true, 5);
      x.beat(0);
      x.beat(0);
      x.beat(1);
      due("same(0, 1)", x.same(0, 1), 0);
      x.give(1, 0, true, 5);
      x.beat(1);
      x.beat(1);
      due("same(0, 1)", x.same(0, 1), 1);
      x = pair("input a;var v:=0;present a then v:=1 end;halt", 0, 1);
      x.beat(0);
      x.beat(1);
      due("same(0, 1)", x.same(0, 1), 0);
    });
    edge("Promise 19: what is given, kept or answered is all one", () -> {
      BeatMill x = run("input a;var v:=0;present a then v:=1/v end;halt");
      x.governor(0);
      x.give(0, 0, true, 0);
      x.keep(0);
      due("same(0, 1)", x.same(0, 1), 1);
      due("beat(0), it FAILED", x.beat(0), 2);
      due("same(0, 1)", x.same(0, 1), 1);
    });
  }

  /** Two governors behind one beat each, with the first input given or not. */
  private static BeatMill pair(String text, int one, int other) {
    BeatMill x = run(text);
    due("governor", x.governor(0), 1);
    x.give(0, 0, one == 1, 0);
    x.give(1, 0, other == 1, 0);
    x.beat(0);
    x.beat(1);
    return x;
  }
}
