/** The sentences of the document on searches (part 4 of its terms, promises 20 to 28) that name a boundary case, a test for each. */
public final class SearchBoundaryTest extends Bench {
  private static final int NO_SUCH = -9;
  private static final String FOUR = "input a;input b;input c;input d;";
  /** Comes to 45 STATES beside those ahead of it; x is present once in 45 beats. */
  private static final String RING = "[loop " + times(5, "pause;") + "emit s end||loop " + times(9, "pause;") + "emit r end||loop present s and r then emit x end;pause end]";

  public static void main(String[] args) {
    states();
    moves();
    alike();
    refusals();
    ways();
    neverAndAlways();
    counting();
    finish(edges + " boundary sentences on searches hold");
  }

  private static void states() {
    edge("Terms 4: STATE 0: no PAUSE is SET, GO", () -> {
      BeatMill x = made("nothing");
      due("search(0)", x.search(0), 1);
      due("move(0, 0, 0, 0)", x.move(0, 0, 0, 0), BeatMill.NONE);
      due("move(0, 0, 0, 1)", x.move(0, 0, 0, 1), 0);
      due("classOf(0, 0)", x.classOf(0, 0), 0);
      x = made("loop trap t in pause;exit t end end");
      due("search(0), one without a PAUSE SET is not STATE 0", x.search(0), 3);
      due("move(0, 0, 0, 0)", x.move(0, 0, 0, 0), 1);
      due("move(0, 1, 0, 0)", x.move(0, 1, 0, 0), 2);
      due("move(0, 2, 0, 0)", x.move(0, 2, 0, 0), 2);
    });
    edge("Terms 4: STATES: which of the signals that stand behind some pre were present, of others not", () -> {
      due("search, no pre", made("input a;input b;halt").search(0), 2);
      due("search, pre a", made("input a;input b;halt;present pre a then nothing end").search(0), 3);
      due("search, pre a twice", made("input a;input b;halt;present pre a and pre a then nothing end").search(0), 3);
      due("search, pre a, pre b", made("input a;input b;halt;present pre a and pre b then nothing end").search(0), 5);
      due("search, a without pre", made("input a;halt;present a then nothing end").search(0), 2);
    });
    edge("Terms 4: STATES: pre of the sixteenth signal", () -> {
      StringBuilder text = new StringBuilder("input a;");
      for (int i = 1; i < 16; i++) text.append("output s").append((char) ('a' + i)).append(';');
      BeatMill x = made(text + "loop present a then emit sp end;present pre sp then emit sb end;pause end");
      due("search(0)", x.search(0), 3);
      due("move(0, 1, 1, 0)", x.move(0, 1, 1, 0), 2);
      due("move(0, 1, 1, 1)", x.move(0, 1, 1, 1), 1 | 1 << 15);
      due("move(0, 2, 1, 1)", x.move(0, 2, 1, 1), 3 | 1 << 15);
    });
    edge("Terms 4: STATES are numbered as they come: from the least on, by the least MOVE", () -> {
      BeatMill x = made("input a;input b;present b then present a then pause;pause else pause end else present a then pause;pause else pause end end");
      due("search(0)", x.search(0), 7);
      int[] first = {1, 2, 3, 4};
      for (int move = 0; move < 4; move++) due("move(0, 0, " + move + ", 0)", x.move(0, 0, move, 0), first[move]);
      due("move(0, 1, 0, 0)", x.move(0, 1, 0, 0), BeatMill.NONE);
      due("move(0, 2, 3, 0)", x.move(0, 2, 3, 0), 5);
      due("move(0, 4, 0, 0)", x.move(0, 4, 0, 0), 6);
    });
    edge("Terms 4: BEYOND: more than 48", () -> {
      BeatMill x = made("output x;signal s;signal r;pause;pause;" + RING);
      due("search(0)", x.search(0), 48);
      due("move(0, 47, 0, 0)", x.move(0, 47, 0, 0), 3);
      due("move(0, 47, 0, 1)", x.move(0, 47, 0, 1), 7);
      due("move(0, 48, 0, 0)", x.move(0, 48, 0, 0), NO_SUCH);
      x = made("output x;signal s;signal r;pause;pause;pause;" + RING);
      due("search(0)", x.search(0), BeatMill.BEYOND);
      due("search(0), again", x.search(0), BeatMill.BEYOND);
      due("move(0, 0, 0, 0)", x.move(0, 0, 0, 0), NO_SUCH);
      due("move(0, 47, 0, 0)", x.move(0, 47, 0, 0), NO_SUCH);
      due("classOf(0, 0)", x.classOf(0, 0), NO_SUCH);
      due("way(0, 0, NONE)", x.way(0, 0, -1), NO_SUCH);
      due("never(0, 0)", x.never(0, 0), NO_SUCH);
      due("always(0, 0, 0)", x.always(0, 0, 0), NO_SUCH);
      due("governor(0)", x.governor(0), 0);
      due("beat(0)", x.beat(0), 0);
    });
    edge("Terms 4: 48 STATES with 32 MOVES each", () -> {
      BeatMill x = made(FOUR + "output x;signal s;signal r;output z;pause;pause;if 1=1 then nothing end;" + RING);
      due("search(0)", x.search(0), 48);
      for (int move = 0; move < 32; move++) {
        due("move(0, 46, " + move + ", 0)", x.move(0, 46, move, 0), 47);
        due("move(0, 47, " + move + ", 0)", x.move(0, 47, move, 0), 3);
        due("move(0, 47, " + move + ", 1)", x.move(0, 47, move, 1), 7 << 4 | move & 15);
      }
      due("classOf(0, 47)", x.classOf(0, 47), 47);
      due("never z", x.never(0, 7), 1);
      due("always x, s", x.always(0, 4, 5), 1);
      due("always x, d", x.always(0, 4, 3), 0);
      against(x, 47, 0);
      due("always a, x", x.always(0, 0, 4), 0);
      against(x, 0, 1);
    });
    edge("Terms 4: what no MOVE leads to is no STATE", () -> {
      due("search, behind halt", made("halt;pause;pause").search(0), 2);
      due("search, all MOVES STUCK", made("output x;present x then emit x end;pause").search(0), 1);
      due("search, all MOVES END", made("input a;present a then nothing end").search(0), 1);
    });
  }

  private static void moves() {
    edge("Terms 4: MOVES: 2^f for each: none free, one MOVE", () -> {
      BeatMill x = made("halt");
      due("move(0, 0, 0, 0)", x.move(0, 0, 0, 0), 1);
      due("move(0, 0, 1, 0)", x.move(0, 0, 1, 0), NO_SUCH);
    });
    edge("Terms 4: f is 5 at most (else BEYOND)", () -> {
      String free = "if 1=1 then nothing end;";
      for (int inputs = 0; inputs <= 4; inputs++) {
        for (int many = 4 - inputs; many <= 7 - inputs; many++) {
          BeatMill x = made(FOUR.substring(0, 8 * inputs) + times(many, free) + "halt");
          int f = inputs + many;
          due("search, " + f + " free", x.search(0), f <= 5 ? 2 : BeatMill.BEYOND);
          due("the last MOVE", x.move(0, 1, (1 << f) - 1, 0), f <= 5 ? 1 : NO_SUCH);
          due("one more", x.move(0, 1, 1 << f, 0), NO_SUCH);
          if (f > 5) {
            due("move(0, 0, 0, 0)", x.move(0, 0, 0, 0), NO_SUCH);
            due("classOf(0, 0)", x.classOf(0, 0), NO_SUCH);
            due("way(0, 0, NONE)", x.way(0, 0, -1), NO_SUCH);
            due("never(0, 0)", x.never(0, 0), NO_SUCH);
            due("always(0, 0, 0)", x.always(0, 0, 0), NO_SUCH);
            due("against(0)", x.against(0), BeatMill.NONE);
          }
        }
      }
    });
    edge("Terms 4: bit i whether input i (in order of text) is given, bits behind those whether each if (in order of text) is so", () -> {
      BeatMill x = made("output x;input a;output y;input b;output z;if 1=2 then emit x;if 1=2 then emit y end end;if 1=2 then emit z end");
      for (int move = 0; move < 32; move++) {
        int shown = ((move & 1) != 0 ? 2 : 0) | ((move & 2) != 0 ? 8 : 0) | ((move & 4) != 0 ? 1 : 0) | ((move & 12) == 12 ? 4 : 0) | ((move & 16) != 0 ? 16 : 0);
        due("move(0, 0, " + move + ", 1)", x.move(0, 0, move, 1), shown);
      }
    });
    edge("Terms 4: whether each if is so, whatever its sums would come to, and without a FAILURE", () -> {
      BeatMill x = made("output x;output y:one;var v:=0;loop if 1/v=1 then emit x end;emit y(1);emit y(1/0);pause end");
      due("search(0)", x.search(0), 2);
      for (int move = 0; move < 2; move++) {
        due("move, to", x.move(0, 0, move, 0), 1);
        due("move, shown", x.move(0, 0, move, 1), 2 + move);
      }
    });
    edge("Terms 4: each leads to a STATE, ENDS or is STUCK; Promise 21: NONE, STATE; STUCK: 0", () -> {
      BeatMill x = made("input a;input b;output x;loop present a then present b then present x then emit x end else halt end else pause end;pause end");
      due("move(0, 0, 3, 0)", x.move(0, 0, 3, 0), BeatMill.STATE);
      due("move(0, 0, 3, 1)", x.move(0, 0, 3, 1), 0);
      x = made("input a;output x;emit x;present a then pause end");
      due("move(0, 0, 0, 0)", x.move(0, 0, 0, 0), BeatMill.NONE);
      due("move(0, 0, 0, 1)", x.move(0, 0, 0, 1), 2);
      due("move(0, 0, 1, 0)", x.move(0, 0, 1, 0), 1);
      due("move(0, 0, 1, 1)", x.move(0, 0, 1, 1), 3);
    });
    edge("Promise 21: the signals that are present, bit by bit: all sixteen", () -> {
      StringBuilder text = new StringBuilder();
      StringBuilder emits = new StringBuilder();
      for (int i = 0; i < 16; i++) {
        text.append("output s").append((char) ('a' + i)).append(';');
        emits.append(";emit s").append((char) ('a' + i));
      }
      BeatMill x = made(text + "nothing" + emits + ";pause" + emits.substring(0, 8));
      due("move(0, 0, 0, 1)", x.move(0, 0, 0, 1), 65535);
      due("move(0, 1, 0, 1)", x.move(0, 1, 0, 1), 1);
    });
  }

  private static void alike() {
    edge("Terms 4: ALIKE if each MOVE ends both", () -> {
      BeatMill x = made("input a;present a then pause else pause end");
      due("search(0)", x.search(0), 3);
      due("classOf(0, 2)", x.classOf(0, 2), 1);
      due("classOf(0, 1)", x.classOf(0, 1), 1);
      x = made("input a;present a then pause;pause else pause end");
      due("classOf(0, 2), it goes on once more", x.classOf(0, 2), 2);
      due("classOf(0, 3), it ENDS next", x.classOf(0, 3), 1);
    });
    edge("Terms 4: ALIKE if each MOVE is STUCK in both", () -> {
      BeatMill x = made("input a;output x;present a then pause;present x then emit x end else pause;present not x then emit x end end");
      due("search(0)", x.search(0), 3);
      due("classOf(0, 2)", x.classOf(0, 2), 1);
      x = made("input a;output x;present a then pause;present x then emit x end else pause end");
      due("classOf(0, 2), STUCK is not to END", x.classOf(0, 2), 2);
      x = made("input a;output x;present a then pause;present x then emit x end else halt end");
      due("classOf(0, 2), STUCK is not to go on", x.classOf(0, 2), 2);
      due("classOf(0, 1)", x.classOf(0, 1), 1);
    });
    edge("Terms 4: with the same outputs present: not by signals or inputs", () -> {
      BeatMill x = made("output x;loop emit x;pause;pause end");
      due("classOf(0, 1), outputs", x.classOf(0, 1), 1);
      due("classOf(0, 2)", x.classOf(0, 2), 0);
      x = made("signal x;loop emit x;pause;pause end");
      for (int s = 0; s < 3; s++) due("classOf(0, " + s + "), signals", x.classOf(0, s), 0);
      x = made("input a;output x;signal s;loop present a then emit s end;pause end");
      for (int s = 0; s < 2; s++) due("classOf(0, " + s + "), inputs", x.classOf(0, s), 0);
    });
    edge("Terms 4: to ALIKE ones", () -> {
      BeatMill x = made("input a;output x;present a then pause;pause;emit x else pause;pause end;halt");
      due("search(0)", x.search(0), 6);
      due("classOf(0, 1)", x.classOf(0, 1), 1);
      due("classOf(0, 2)", x.classOf(0, 2), 2);
      due("classOf(0, 3)", x.classOf(0, 3), 1);
      due("classOf(0, 4)", x.classOf(0, 4), 4);
      due("classOf(0, 5)", x.classOf(0, 5), 1);
    });
    edge("Terms 4: in what ENDS the outputs are the same, too", () -> {
      BeatMill x = made("input a;output x;present a then pause;emit x else pause end");
      due("classOf(0, 2)", x.classOf(0, 2), 2);
      x = made("input a;output x;signal s;present a then pause;emit s else pause end");
      due("classOf(0, 2), signals", x.classOf(0, 2), 1);
    });
    edge("Terms 4: A CLASS is the least STATE that is ALIKE: all in one, each its own", () -> {
      BeatMill x = made("signal x;signal s;signal r;pause;pause;" + RING);
      due("search(0)", x.search(0), 48);
      for (int s = 0; s < 48; s++) due("classOf(0, " + s + ")", x.classOf(0, s), 0);
      x = made("output x;signal s;signal r;pause;pause;" + RING);
      for (int s = 0; s < 48; s++) due("classOf(0, " + s + ")", x.classOf(0, s), s);
    });
  }

  private static void refusals() {
    edge("Promise 20: BAD", () -> {
      BeatMill x = made("halt");
      for (int m : new int[] {-1, 1, 4, MIN, MAX}) due("search(" + m + ")", x.search(m), BeatMill.BAD);
    });
    edge("Promise 20: a SEARCH again, and beside governors that run, is the same", () -> {
      BeatMill x = run("input a;output x;loop await a;emit x end");
      int states = x.search(0);
      x.give(0, 0, true, 0);
      due("beat(0)", x.beat(0), 0);
      due("search(0)", x.search(0), states);
      x.give(0, 0, true, 0);
      due("beat(0)", x.beat(0), 0);
      due("present(0, 1)", x.present(0, 1), 1);
      due("told(0, 0)", x.told(0, 0), 2);
    });
    edge("Promise 21: BAD -9: no such", () -> {
      BeatMill x = made("input a;halt");
      for (int m : new int[] {-1, 1, 4, MIN, MAX}) due("move(" + m + ", 0, 0, 0)", x.move(m, 0, 0, 0), NO_SUCH);
      for (int s : new int[] {-1, 2, 48, MIN, MAX}) due("move(0, " + s + ", 0, 0)", x.move(0, s, 0, 0), NO_SUCH);
      for (int move : new int[] {-1, 2, 32, MIN, MAX}) due("move(0, 0, " + move + ", 0)", x.move(0, 0, move, 0), NO_SUCH);
      for (int what : new int[] {-1, 2, MIN, MAX}) due("move(0, 0, 0, " + what + ")", x.move(0, 0, 0, what), NO_SUCH);
    });
    edge("Promise 22: BAD -9 likewise", () -> {
      BeatMill x = made("halt");
      for (int m : new int[] {-1, 1, MIN, MAX}) due("classOf(" + m + ", 0)", x.classOf(m, 0), NO_SUCH);
      for (int s : new int[] {-1, 2, 48, MIN, MAX}) due("classOf(0, " + s + ")", x.classOf(0, s), NO_SUCH);
    });
  }

  private static void ways() {
    edge("Promise 23: how many they are (i = NONE): none to STATE 0, 47 to the last", () -> {
      BeatMill x = made("output x;signal s;signal r;pause;pause;" + RING);
      due("way(0, 0, NONE)", x.way(0, 0, BeatMill.NONE), 0);
      due("way(0, 0, 0)", x.way(0, 0, 0), NO_SUCH);
      due("way(0, 47, NONE)", x.way(0, 47, BeatMill.NONE), 47);
      due("way(0, 47, 46)", x.way(0, 47, 46), 0);
      due("way(0, 47, 47)", x.way(0, 47, 47), NO_SUCH);
    });
    edge("Promise 23: MOVE i of the WAY to a STATE, the first first", () -> {
      BeatMill x = made("input a;input b;present a and b then pause;present b and not a then pause;present a and not b then halt end end end");
      due("search(0)", x.search(0), 4);
      int[] want = {3, 2, 1};
      due("way(0, 3, NONE)", x.way(0, 3, -1), 3);
      for (int i = 0; i < 3; i++) due("way(0, 3, " + i + ")", x.way(0, 3, i), want[i]);
      due("way(0, 1, NONE)", x.way(0, 1, -1), 1);
      due("way(0, 1, 0)", x.way(0, 1, 0), 3);
    });
    edge("Terms 4: A WAY to a STATE are the MOVES by which it came: the first that led to it", () -> {
      BeatMill x = made("input a;input b;loop present a or b then pause else halt end end");
      due("search(0)", x.search(0), 3);
      due("way(0, 2, NONE)", x.way(0, 2, -1), 1);
      due("way(0, 2, 0)", x.way(0, 2, 0), 1);
    });
    edge("Promise 23: BAD -9 likewise", () -> {
      BeatMill x = made("pause;pause");
      for (int m : new int[] {-1, 1, MIN, MAX}) due("way(" + m + ", 0, NONE)", x.way(m, 0, -1), NO_SUCH);
      for (int s : new int[] {-1, 3, 48, MIN, MAX}) due("way(0, " + s + ", NONE)", x.way(0, s, -1), NO_SUCH);
      for (int i : new int[] {-2, 2, 48, MIN, MAX}) due("way(0, 2, " + i + ")", x.way(0, 2, i), NO_SUCH);
    });
  }

  private static void neverAndAlways() {
    edge("Promise 24: never, of all MOVES: one that ENDS counts, one that is STUCK shows nothing", () -> {
      BeatMill x = made("input a;output x;output y;output z;present a then present z then emit z end;emit y else emit x end");
      due("never x", x.never(0, 1), 0);
      due("never y", x.never(0, 2), 1);
      due("never z", x.never(0, 3), 1);
      due("never a, which is given in what is STUCK alone", x.never(0, 0), 1);
    });
    edge("Promise 24: BAD -9 likewise", () -> {
      BeatMill x = made("input a;output x;halt");
      for (int m : new int[] {-1, 1, MIN, MAX}) due("never(" + m + ", 0)", x.never(m, 0), NO_SUCH);
      for (int s : new int[] {-1, 2, 16, 32, MIN, MAX}) due("never(0, " + s + ")", x.never(0, s), NO_SUCH);
    });
    edge("Promise 24: of the sixteenth signal", () -> {
      StringBuilder text = new StringBuilder();
      for (int i = 0; i < 16; i++) text.append("output s").append((char) ('a' + i)).append(';');
      BeatMill x = made(text + "pause;emit sp");
      due("never(0, 15)", x.never(0, 15), 0);
      due("against(0)", x.against(0), 1);
      due("never(0, 14)", x.never(0, 14), 1);
      due("always(0, 15, 14)", x.always(0, 15, 14), 0);
      due("always(0, 14, 15)", x.always(0, 14, 15), 1);
      due("always(0, 15, 15)", x.always(0, 15, 15), 1);
    });
    edge("Promise 25: in each MOVE in which a is: if there is none, it is so; of one and the same, too", () -> {
      BeatMill x = made("input a;output x;output y;output z;present a then emit x;emit y else emit y end");
      due("always z, x", x.always(0, 3, 1), 1);
      due("always x, z", x.always(0, 1, 3), 0);
      due("always x, y", x.always(0, 1, 2), 1);
      due("always x, a", x.always(0, 1, 0), 1);
      due("always y, x", x.always(0, 2, 1), 0);
      due("always y, y", x.always(0, 2, 2), 1);
      due("always z, z", x.always(0, 3, 3), 1);
    });
    edge("Promise 25: BAD -9 likewise", () -> {
      BeatMill x = made("input a;output x;halt");
      for (int m : new int[] {-1, 1, MIN, MAX}) due("always(" + m + ", 0, 0)", x.always(m, 0, 0), NO_SUCH);
      for (int s : new int[] {-1, 2, 16, 32, MIN, MAX}) {
        due("always(0, " + s + ", 0)", x.always(0, s, 0), NO_SUCH);
        due("always(0, 0, " + s + ")", x.always(0, 0, s), NO_SUCH);
      }
    });
    edge("Promise 26: NONE both, ahead of any that answered 0", () -> {
      BeatMill x = made("output x;output y;emit x");
      against(x, -1, -1);
      due("never y", x.never(0, 1), 1);
      due("always y, x", x.always(0, 1, 0), 1);
      due("never, none such", x.never(0, 2), NO_SUCH);
      against(x, -1, -1);
      due("never x", x.never(0, 0), 0);
      against(x, 0, 0);
    });
    edge("Promise 26: the least STATE, its least MOVE against it", () -> {
      BeatMill x = made("input a;input b;output x;output y;output z;pause;present a and b then emit x end;present b then emit y end;pause;emit x;emit z");
      due("never x", x.never(0, 2), 0);
      against(x, 1, 3);
      due("never y", x.never(0, 3), 0);
      against(x, 1, 2);
      due("never z", x.never(0, 4), 0);
      against(x, 2, 0);
      due("always y, x", x.always(0, 3, 2), 0);
      against(x, 1, 2);
      due("always x, z", x.always(0, 2, 4), 0);
      against(x, 1, 3);
      due("always z, b", x.always(0, 4, 1), 0);
      against(x, 2, 0);
    });
    edge("Promise 26: the last STATE and the last MOVE", () -> {
      BeatMill x = made(FOUR + "output x;loop if 1=1 then present a and b and c and d then emit x end end;pause end");
      due("never x", x.never(0, 4), 0);
      against(x, 0, 31);
      x = made("output x;signal s;signal r;pause;pause;" + RING);
      due("never x", x.never(0, 0), 0);
      against(x, 47, 0);
    });
    edge("Promise 26: of the latest that answered 0: others leave it, also those of another module", () -> {
      BeatMill x = made("output x;output y;pause;emit x");
      add(x, "output x;pause;pause;emit x", 1);
      due("never(1, x)", x.never(1, 0), 0);
      against(x, 2, 0);
      due("never(0, y)", x.never(0, 1), 1);
      due("never(9, y)", x.never(9, 1), NO_SUCH);
      due("always(0, y, x)", x.always(0, 1, 0), 1);
      due("always(0, 7, x)", x.always(0, 7, 0), NO_SUCH);
      due("search(0)", x.search(0), 2);
      against(x, 2, 0);
      due("always(0, x, y)", x.always(0, 0, 1), 0);
      against(x, 1, 0);
    });
    edge("Promise 26: BAD", () -> {
      BeatMill x = made("output x;emit x");
      x.never(0, 0);
      for (int what : new int[] {-1, 2, MIN, MAX}) due("against(" + what + ")", x.against(what), BeatMill.BAD);
    });
  }

  private static void against(BeatMill x, int state, int move) {
    due("against(0)", x.against(0), state);
    due("against(1)", x.against(1), move);
  }

  private static void counting() {
    edge("Promise 27: BAD", () -> {
      BeatMill x = new BeatMill();
      for (int what : new int[] {-1, 3, MIN, MAX}) due("count(" + what + ")", x.count(what), BeatMill.BAD);
    });
    edge("Promise 27: how many: none, all that may be", () -> {
      BeatMill x = new BeatMill();
      for (int what = 0; what < 3; what++) due("count(" + what + ")", x.count(what), 0);
      for (int m = 0; m < 4; m++) add(x, "halt", m);
      for (int g = 0; g < 8; g++) x.governor(g % 4);
      for (int i = 0; i < 41; i++) x.feed(0, 0, 0, 0, 0);
      due("count(0)", x.count(0), 4);
      due("count(1)", x.count(1), 8);
      due("count(2)", x.count(2), 800);
    });
    edge("Promise 28: all modules and governors go: how many modules", () -> {
      BeatMill x = new BeatMill();
      due("clear(), none", x.clear(), 0);
      for (int m = 0; m < 4; m++) add(x, "halt", m);
      for (int g = 0; g < 8; g++) x.governor(g % 4);
      x.beat(0);
      x.search(0);
      due("clear()", x.clear(), 4);
      due("count(0)", x.count(0), 0);
      due("count(1)", x.count(1), 0);
      due("module(0, 0)", x.module(0, 0), BeatMill.BAD);
      due("told(0, 0)", x.told(0, 0), BeatMill.BAD);
      due("governor(0)", x.governor(0), BeatMill.BAD);
      due("search(0)", x.search(0), BeatMill.BAD);
      due("move(0, 0, 0, 0)", x.move(0, 0, 0, 0), NO_SUCH);
      due("clear(), none", x.clear(), 0);
    });
    edge("Promise 28: THE TAPE stays", () -> {
      BeatMill x = made("halt");
      write(x, "halt;pause");
      due("clear()", x.clear(), 1);
      due("count(2)", x.count(2), 10);
      due("compile()", x.compile(), 0);
      due("part(0, 1)", x.part(0, 1), 5);
    });
    edge("Promise 28: what is made behind it is new, numbered from 0 on", () -> {
      BeatMill x = run("input a:one;output x;halt");
      x.give(0, 0, true, 5);
      x.keep(0);
      x.beat(0);
      x.search(0);
      x.clear();
      add(x, "input a:one;pause;pause", 0);
      due("governor(0)", x.governor(0), 0);
      tolds(x, 0, 0, 0, -1, 0, -1, 0, 0);
      due("value(0, 0)", x.value(0, 0), 0);
      due("search(0)", x.search(0), 3);
      beat(x, 0, 0, 0);
    });
    edge("Promise 28: and may be four and eight again", () -> {
      BeatMill x = new BeatMill();
      for (int round = 0; round < 3; round++) {
        for (int m = 0; m < 4; m++) add(x, "halt", m);
        due("compile()", x.compile(), BeatMill.FULL);
        for (int g = 0; g < 8; g++) due("governor", x.governor(3), g);
        due("governor", x.governor(0), BeatMill.FULL);
        due("clear()", x.clear(), 4);
      }
    });
  }
}
