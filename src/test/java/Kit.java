/** What the tests share: feeds scripts to a house and tells every answer that is not due. */
final class Kit {
  private static int wrong = 0;
  private static int checks = 0;
  private CommandHouse house = new CommandHouse();
  private String input = null;

  /** A house that has run nothing yet. */
  static Kit fresh() {
    return new Kit();
  }

  CommandHouse house() {
    return house;
  }

  static void due(String what, Object got, Object want) {
    checks++;
    if (!String.valueOf(got).equals(String.valueOf(want))) {
      wrong++;
      System.out.println(what + "\n  answered " + show(got) + "\n  due is   " + show(want));
    }
  }

  static String show(Object o) {
    return String.valueOf(o).replace("\n", "\\n").replace("\t", "\\t");
  }

  static void finish() {
    System.out.println(checks + " checks, " + wrong + " wrong");
    if (wrong != 0) {
      System.exit(1);
    }
  }

  /** Lays the bytes on the tape of the house. */
  static void lay(CommandHouse h, String bytes) {
    int already = h.count(5);
    for (int i = 0; i < bytes.length(); i += 20) {
      int[] five = new int[5];
      for (int k = 0; k < 20; k++) {
        int b = i + k < bytes.length() ? bytes.charAt(i + k) & 255 : 0;
        five[k / 4] = five[k / 4] << 8 | b;
      }
      if (h.feed(five[0], five[1], five[2], five[3], five[4]) < 0) {
        throw new IllegalStateException("the tape is full");
      }
    }
    h.end(already + bytes.length());
  }

  /** The INPUT of the next run. */
  Kit with(String text) {
    input = text;
    return this;
  }

  int status(String script) {
    if (input != null) {
      lay(house, input);
      house.input();
      input = null;
    }
    lay(house, script);
    return house.run();
  }

  static String out(CommandHouse h) {
    StringBuilder b = new StringBuilder();
    for (int i = 0; i < h.size(); i++) {
      b.append((char) h.out(i));
    }
    return b.toString();
  }

  static String diagnostics(CommandHouse h) {
    StringBuilder b = new StringBuilder();
    for (int i = 0; h.diagnostic(i) >= 0; i++) {
      b.append(h.diagnostic(i));
    }
    return b.toString();
  }

  /** Runs the script: its STATUS, OUT and DIAGNOSTICS (a digit each) are due. */
  Kit run(String script, int status, String out, String diagnostics) {
    int got = status(script);
    String what = show(script);
    due(what, got + " [" + out(house) + "] " + diagnostics(house),
        status + " [" + out + "] " + diagnostics);
    due("out behind the end of " + what, house.out(house.size()), -1);
    due("how many DIAGNOSTICS of " + what, house.count(4), diagnostics.length());
    return this;
  }

  Kit run(String script, String out) {
    return run(script, 0, out, "");
  }

  /** A script on a new house. */
  static void check(String script, String out) {
    fresh().run(script, 0, out, "");
  }

  static void check(String script, int status, String out, String diagnostics) {
    fresh().run(script, status, out, diagnostics);
  }

  /** A script that is WRONG at the place, on a new house; what came OUT ahead of that. */
  static void wrong(String script, int place, String out) {
    Kit k = fresh();
    k.run(script, 2, out, "7");
    due("wrong() of " + show(script), k.house.wrong(), place);
  }

  static void wrong(String script, int place) {
    wrong(script, place, "");
  }

  /** A script on a new house costs so much WORK. */
  static void work(String script, int amount) {
    Kit k = fresh();
    k.status(script);
    due("WORK of " + show(script), k.house.count(0), amount);
  }

  String file(String name) {
    for (int i = 0; i < house.count(2); i++) {
      if (text(i, true).equals(name)) {
        return text(i, false);
      }
    }
    return null;
  }

  private String text(int i, boolean names) {
    StringBuilder b = new StringBuilder();
    for (int k = 0; house.byteOf(i, names, k) >= 0; k++) {
      b.append((char) house.byteOf(i, names, k));
    }
    return b.toString();
  }

  static String times(String s, int n) {
    StringBuilder b = new StringBuilder();
    for (int i = 0; i < n; i++) {
      b.append(s);
    }
    return b.toString();
  }

  /**
   * What may stand within $(( )), with so many $(( )) in one another: each ${z+ } stands within ' for those around it,
   * and ends what is QUOTED for those within.
   */
  static String textWith(int n, String innermost) {
    return times("((${z+'}$((${z+\\'}", n) + innermost + times("))${z+'}))${z+\\'}", n);
  }
}
