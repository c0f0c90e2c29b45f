import java.io.IOException;
import java.nio.file.Files;
import java.nio.file.Path;
import java.util.List;
import java.util.regex.Matcher;
import java.util.regex.Pattern;

/** The lines that README.md shows answer what stands behind them. */
public final class ReadmeTest extends Bench {
  private static final Pattern SHOWN = Pattern.compile("(mill\\.[a-zA-Z]+\\(.*?\\)); +// (-?\\d+): .*");
  private static List<String> lines;
  private static int at = 0;

  public static void main(String[] args) throws IOException {
    section = "README.md";
    lines = Files.readAllLines(Path.of("README.md"));
    BeatMill mill = new BeatMill();
    feedAll(mill, "input go : one; output rate : sum; var n := 0; " + "loop await go; n := n + ?go; emit rate(n); pause end");
    shown("mill.compile()", mill.compile());
    shown("mill.module(0, 5)", mill.module(0, 5));
    shown("mill.governor(0)", mill.governor(0));
    shown("mill.beat(0)", mill.beat(0));
    shown("mill.give(0, 0, true, 7)", mill.give(0, 0, true, 7));
    shown("mill.beat(0)", mill.beat(0));
    shown("mill.present(0, 1)", mill.present(0, 1));
    shown("mill.value(0, 1)", mill.value(0, 1));
    shown("mill.variable(0, 0)", mill.variable(0, 0));
    shown("mill.keep(0)", mill.keep(0));
    shown("mill.beat(0)", mill.beat(0));
    shown("mill.paused(0, 0)", mill.paused(0, 0));
    shown("mill.back(0)", mill.back(0));
    shown("mill.paused(0, 0)", mill.paused(0, 0));
    shown("mill.search(0)", mill.search(0));
    shown("mill.way(0, 2, -1)", mill.way(0, 2, -1));
    shown("mill.classOf(0, 2)", mill.classOf(0, 2));
    shown("mill.always(0, 1, 0)", mill.always(0, 1, 0));
    shown("mill.never(0, 1)", mill.never(0, 1));
    shown("mill.against(0)", mill.against(0));
    shown("mill.against(1)", mill.against(1));
    feedAll(mill, "loop nothing end");
    shown("mill.compile()", mill.compile());
    shown("mill.fault()", mill.fault());
    shown("mill.clear()", mill.clear());
    due("lines that are shown and not run", shownFrom(at) < 0 ? 0 : 1, 0);
    finish("what README.md shows is so");
  }

  /** As README.md feeds a text: blanks stay behind it. */
  private static void feedAll(BeatMill mill, String text) {
    for (int from = 0; from < text.length(); from += 20) {
      int[] five = new int[5];
      for (int i = 0; i < 20; i++) {
        int sign = from + i < text.length() ? text.charAt(from + i) : ' ';
        five[i / 4] = five[i / 4] << 8 | sign;
      }
      mill.feed(five[0], five[1], five[2], five[3], five[4]);
    }
  }

  /** The next line that README.md shows is this call, with this answer. */
  private static void shown(String call, int got) {
    int line = shownFrom(at);
    if (line < 0) {
      due("line that shows " + call, 0, 1);
      return;
    }
    at = line + 1;
    Matcher matcher = SHOWN.matcher(lines.get(line));
    due("line of " + call, matcher.matches() && matcher.group(1).equals(call) ? 1 : 0, 1);
    due(call, got, Integer.parseInt(matcher.group(2)));
  }

  private static int shownFrom(int first) {
    for (int i = first; i < lines.size(); i++) if (SHOWN.matcher(lines.get(i)).matches()) return i;
    return -1;
  }
}
