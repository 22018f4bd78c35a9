import java.util.Random;

/** No script, no call, may throw or hang: scripts of random pieces and of random bytes. */
public final class AnyScriptTest {
  private static final String[] PIECES = {"echo", "cat", "read", "x", "y", "f", "a", "b", "$x", "$y", "${x:-a b}",
      "${y:=q}", "${x#*}", "${x%%a*}", "\"$@\"", "$@", "$*", "\"$*\"", "$#", "$?", "$1", "${10}", "${#x}", "${x+}",
      "$(echo a b)", "$((1+2))", "$((x*2))", "$(", "$((", "${", "}", "{", "(", ")", "'", "\"", "\\", "|", "||", "&&",
      "&", ";", ";;", "\n", "\n", "\n", " ", " ", "<", "> f", "< f", ">> g", "<< E\n", "E\n", "<< 'E'\n", "if ",
      "then ", "else ", "elif ", "fi", "while ", "until ", "do ", "done", "for ", "in ", "case ", "esac", "!", "! ",
      "x=1", "y=$x", "x=*", "*", "?", "[a-z]", "[!a]", "f()", "f () {", "return", "return 3", "break", "continue",
      "break 2", "exit", "exit 4", "set -u", "set -f", "set -- a b", "shift", "unset x", "eval", "eval 'echo $x'",
      "test", "test a = b", "-n", "-z", "-eq", "-e", "=", "!=", "#", "# c\n", "true", "false", ":", "\u00e9", "\u0000",
      "~", "%", "##", "%%", ":=", "+", "-", "@", "1", "0", "9", "2000000000"};
  private static final String[] WHOLE = {"echo $x", "x=a$x", "f $x y", "f() { %; %; }", "{ %; %; }", "(%; %)",
      "if %; then %; else %; fi", "for x in a $y \"$@\"; do %; done", "while %; do %; done", "until %; do %; %; done",
      "case $x in a*) %;; *) %;; esac", "% | %", "% && %", "% || %", "! %", "x=$(%; %)", "echo $(%)", "eval '%'",
      "% > f", "% < f", "read x y", "cat f", "cat", "echo a > g", "set a \"$x\" $x", "shift", "break", "continue 2",
      "return", "exit 3", "test $x = a", "test -n \"$x\"", "set -u", "unset x f", "echo ${x:-$(%)}", "echo $((x + 1))",
      "echo \"${x#a}$@\"", "y=$x$x", "nosuch", "true", "false", ":", "echo *", "x=1 f", "x=${y:=b}$?"};

  public static void main(String[] args) {
    for (int seed = 0; seed < 30000; seed++) {
      Random random = new Random(seed);
      CommandHouse h = new CommandHouse();
      for (int runs = 1 + random.nextInt(3); runs > 0; runs--) {
        String script = script(random);
        if (random.nextInt(3) == 0) {
          Kit.lay(h, "a b c\nd e\n\nlast");
          h.input();
        }
        Kit.lay(h, script);
        try {
          int status = h.run();
          if (status < -4 || status > 255 || h.size() > 4000 || h.count(0) > 150000 || h.count(3) > 40000) {
            Kit.due("the answers of " + Kit.show(script), status, "in bounds");
          }
        } catch (RuntimeException | StackOverflowError e) {
          Kit.due("seed " + seed + ": " + Kit.show(script), e, "no throw");
        }
      }
    }
    Kit.due("all ran", true, true);
    Kit.finish();
  }

  private static String script(Random random) {
    StringBuilder b = new StringBuilder();
    int kind = random.nextInt(10);
    if (kind == 0) {
      for (int n = random.nextInt(60); n > 0; n--) {
        b.append((char) random.nextInt(256));
      }
    } else if (kind < 6) {
      for (int n = random.nextInt(80); n > 0; n--) {
        b.append(PIECES[random.nextInt(PIECES.length)]).append(random.nextInt(3) > 0 ? " " : "");
      }
    } else {
      for (int n = 1 + random.nextInt(8); n > 0; n--) {
        b.append(whole(random, 0)).append('\n');
      }
      if (random.nextInt(4) == 0) {
        b.deleteCharAt(random.nextInt(b.length()));
      }
    }
    return b.length() > 1500 ? b.substring(0, 1500) : b.toString();
  }

  private static String whole(Random random, int depth) {
    String w = WHOLE[random.nextInt(WHOLE.length)];
    StringBuilder b = new StringBuilder();
    for (int i = 0; i < w.length(); i++) {
      if (w.charAt(i) == '%') {
        b.append(depth > 4 ? ":" : whole(random, depth + 1));
      } else {
        b.append(w.charAt(i));
      }
    }
    return b.toString();
  }
}
