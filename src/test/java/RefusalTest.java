import java.util.ArrayList;
import java.util.List;
import java.util.function.ToIntFunction;

/** What is refused: the first answer that fits is given, and nothing is changed by it. */
public final class RefusalTest extends Bench {
  private static final int NO_SUCH = -9;

  public static void main(String[] args) {
    edge("Terms: BAD, STATE, FULL, the first that fits", RefusalTest::firstThatFits);
    edge("Terms: what is refused changes nothing", RefusalTest::changesNothing);
    edge("Terms: what is refused changes nothing, but THE TAPE, as told", RefusalTest::tapeGoes);
    edge("Terms: what is made is numbered from 0 on, what is refused takes no number", RefusalTest::numbered);
    finish(edges + " sentences on refusals hold");
  }

  private static void firstThatFits() {
    BeatMill x = crowded();
    due("governor: BAD ahead of FULL", x.governor(4), BeatMill.BAD);
    due("governor: FULL", x.governor(3), BeatMill.FULL);
    due("give: BAD ahead of STATE, no such input", x.give(1, 1, true, 0), BeatMill.BAD);
    due("give: BAD ahead of STATE, a number beyond", x.give(1, 0, true, 1000000001), BeatMill.BAD);
    due("give: STATE", x.give(1, 0, true, 0), BeatMill.STATE);
    due("keep: BAD ahead of FULL", x.keep(8), BeatMill.BAD);
    due("keep: FULL", x.keep(0), BeatMill.FULL);
    due("back: BAD ahead of STATE", x.back(-1), BeatMill.BAD);
    due("back: STATE", x.back(1), BeatMill.STATE);
    due("beat: BAD ahead of STATE", x.beat(9), BeatMill.BAD);
    due("beat: STATE", x.beat(1), BeatMill.STATE);
    due("same: BAD ahead of STATE", x.same(1, 8), BeatMill.BAD);
    due("same: STATE", x.same(1, 0), BeatMill.STATE);
    due("search: BAD ahead of BEYOND", x.search(4), BeatMill.BAD);
    due("search: BEYOND", x.search(3), BeatMill.BEYOND);
  }

  /** Full of modules, governors, bytes and kept ones; one governor has ENDED, one is STUCK, one FAILED, inputs are given. */
  private static BeatMill crowded() {
    BeatMill x = new BeatMill();
    add(x, "input a:one;input b;output x:sum;var v:=1;loop v:=v+1;present a then emit x(?a) end;present pre b then emit x(v) end;pause end", 0);
    add(x, "input a;output x;emit x", 1);
    add(x, "input a;output x;var v:=0;loop present a then present x then emit x end else v:=1/v end;pause end", 2);
    add(x, times(6, "if 1=1 then nothing end;") + "halt", 3);
    for (int g = 0; g < 8; g++) x.governor(g < 4 ? g : g % 2);
    for (int i = 0; i < 3; i++) {
      x.give(0, 0, true, 40 + i);
      x.give(0, 1, true, 0);
      x.beat(0);
      x.keep(0);
    }
    x.give(0, 0, true, 50);
    x.beat(0);
    x.give(0, 0, true, 60);
    x.give(0, 1, true, 0);
    x.beat(1);
    x.give(2, 0, true, 0);
    x.beat(2);
    x.keep(2);
    x.keep(2);
    x.beat(2);
    x.give(4, 0, true, 70);
    x.always(0, 0, 1);
    for (int i = 0; i < 40; i++) x.feed(0x68616c74, 0x3b68616c, 0x743b6861, 0x6c743b68, 0x616c743b);
    return x;
  }

  private static void changesNothing() {
    refused("feed", x -> x.feed(0, 0, 0, 0, 0), BeatMill.FULL);
    refused("end(-1)", x -> x.end(-1), BeatMill.BAD);
    refused("end(801)", x -> x.end(801), BeatMill.BAD);
    refused("compile()", x -> x.compile(), BeatMill.FULL);
    refused("module(4, 0)", x -> x.module(4, 0), BeatMill.BAD);
    refused("module(0, 8)", x -> x.module(0, 8), BeatMill.BAD);
    refused("part(0, 99)", x -> x.part(0, 99), BeatMill.BAD);
    refused("governor(4)", x -> x.governor(4), BeatMill.BAD);
    refused("governor(0)", x -> x.governor(0), BeatMill.FULL);
    refused("give, no such governor", x -> x.give(8, 0, false, 0), BeatMill.BAD);
    refused("give, no such input", x -> x.give(0, 2, false, 0), BeatMill.BAD);
    refused("give, no such input", x -> x.give(0, -1, false, 0), BeatMill.BAD);
    refused("give, beyond", x -> x.give(0, 0, true, 1000000001), BeatMill.BAD);
    refused("give, beyond, not", x -> x.give(0, 0, false, -1000000001), BeatMill.BAD);
    refused("give, ENDED", x -> x.give(1, 0, true, 1), BeatMill.STATE);
    refused("beat(8)", x -> x.beat(8), BeatMill.BAD);
    refused("beat(-1)", x -> x.beat(-1), BeatMill.BAD);
    refused("beat(1)", x -> x.beat(1), BeatMill.STATE);
    refused("present(0, 3)", x -> x.present(0, 3), BeatMill.BAD);
    refused("value(0, 3)", x -> x.value(0, 3), 0);
    refused("variable(0, 1)", x -> x.variable(0, 1), 0);
    refused("wire(0, 0, 5)", x -> x.wire(0, 0, 5), BeatMill.BAD);
    refused("told(0, 8)", x -> x.told(0, 8), BeatMill.BAD);
    refused("paused(0, 1)", x -> x.paused(0, 1), BeatMill.BAD);
    refused("keep(8)", x -> x.keep(8), BeatMill.BAD);
    refused("keep(0)", x -> x.keep(0), BeatMill.FULL);
    refused("back(8)", x -> x.back(8), BeatMill.BAD);
    refused("back(1)", x -> x.back(1), BeatMill.STATE);
    refused("back(4)", x -> x.back(4), BeatMill.STATE);
    refused("same(0, 8)", x -> x.same(0, 8), BeatMill.BAD);
    refused("same(0, 1)", x -> x.same(0, 1), BeatMill.STATE);
    refused("search(4)", x -> x.search(4), BeatMill.BAD);
    refused("search(3)", x -> x.search(3), BeatMill.BEYOND);
    refused("move(3, 0, 0, 0)", x -> x.move(3, 0, 0, 0), NO_SUCH);
    refused("move(0, 0, 4, 0)", x -> x.move(0, 0, 4, 0), NO_SUCH);
    refused("classOf(0, 48)", x -> x.classOf(0, 48), NO_SUCH);
    refused("way(0, 0, 0)", x -> x.way(0, 0, 0), NO_SUCH);
    refused("never(0, 3)", x -> x.never(0, 3), NO_SUCH);
    refused("never(3, 0)", x -> x.never(3, 0), NO_SUCH);
    refused("always(0, 0, 3)", x -> x.always(0, 0, 3), NO_SUCH);
    refused("against(2)", x -> x.against(2), BeatMill.BAD);
    refused("count(3)", x -> x.count(3), BeatMill.BAD);
  }

  /** Two like objects, one of which has refused a call, look alike, go on alike and come back alike. */
  private static void refused(String call, ToIntFunction<BeatMill> refusing, int answer) {
    for (int stage = 0; stage < 4; stage++) {
      BeatMill one = crowded();
      BeatMill other = crowded();
      due(call, refusing.applyAsInt(one), answer);
      List<Integer> seen = view(one, stage);
      List<Integer> want = view(other, stage);
      if (!seen.equals(want)) {
        wrong++;
        System.out.println(section + ": " + call + " changed something that is seen in stage " + stage);
      }
    }
  }

  private static List<Integer> view(BeatMill x, int stage) {
    List<Integer> seen = new ArrayList<>();
    if (stage == 1) for (int g = 0; g < 8; g++) seen.add(x.beat(g));
    if (stage == 2) {
      for (int g = 0; g < 8; g++) seen.add(x.back(g));
      seen.add(x.beat(0));
    }
    if (stage == 3) {
      seen.add(x.clear());
      seen.add(x.compile());
    }
    for (int what = 0; what < 3; what++) seen.add(x.count(what));
    seen.add(x.fault());
    seen.add(x.against(0));
    seen.add(x.against(1));
    for (int m = 0; m < 4; m++) seen.add(x.search(m));
    for (int g = 0; g < 5; g++) viewGovernor(x, g, seen);
    return seen;
  }

  private static void viewGovernor(BeatMill x, int g, List<Integer> seen) {
    for (int what = 0; what < 8; what++) seen.add(x.told(g, what));
    for (int s = 0; s < 3; s++) {
      seen.add(x.present(g, s));
      seen.add(x.value(g, s));
    }
    seen.add(x.variable(g, 0));
    seen.add(x.paused(g, 0));
    for (int i = 0; i < 6; i++) for (int what = 0; what < 5; what++) seen.add(x.wire(g, i, what));
  }

  private static void tapeGoes() {
    BeatMill x = run("halt");
    x.beat(0);
    write(x, "halt;loop nothing end");
    due("compile()", x.compile(), -15);
    due("count(2), THE TAPE is empty then", x.count(2), 0);
    due("count(0)", x.count(0), 1);
    due("count(1)", x.count(1), 1);
    due("module(0, 4)", x.module(0, 4), 1);
    tolds(x, 1, 1, 0, 0, 0, -1, 0, 0);
    due("search(0)", x.search(0), 2);
    beat(x, 0, 0, 0);
  }

  private static void numbered() {
    BeatMill x = new BeatMill();
    x.compile();
    add(x, "halt", 0);
    x.compile();
    due("governor(1)", x.governor(1), BeatMill.BAD);
    due("governor(0)", x.governor(0), 0);
    write(x, "foo");
    x.compile();
    add(x, "halt", 1);
    due("governor(1)", x.governor(1), 1);
    due("governor(2)", x.governor(2), BeatMill.BAD);
    due("governor(0)", x.governor(0), 2);
    add(x, "halt", 2);
    add(x, "halt", 3);
    due("told(1, 6)", x.told(1, 6), 1);
  }
}
