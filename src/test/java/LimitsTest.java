/** WORK, counted by hand, and the LIMITS. */
public final class LimitsTest {
  public static void main(String[] args) {
    work();
    workOfWords();
    outOfWork();
    bytesOfWork();
    longRounds();
    texts();
    bytesOfTexts();
    numbers();
    levels();
    afterwards();
    Kit.finish();
  }

  private static int script(String s) {
    return 5 + s.length();
  }

  /** What a script costs: with just so much WORK left it runs to its end, with 1 less it does not. */
  private static void due(String s, int amount) {
    int all = script(s) + amount;
    Kit.work(s, all);
    Kit k = fewLeft(all);
    Kit.due("just enough WORK for " + Kit.show(s), k.status(s) >= 0, true);
    Kit.due("no WORK is left of " + Kit.show(s), k.house().count(0), 150000);
    Kit.due("no WORK for " + Kit.show(s), fewLeft(all - 1).status(s), -1);
  }

  private static void work() {
    due("", 0);
    due("# note", 0);
    due(":", 5 + 2);
    due("echo ab", 5 + 5 + 3 + 3);
    due("x=abc", 5 + 4);
    due("x=", 5 + 1);
    due("nosuch", 5 + 7);
    due("(:)", 50 + 7);
    due("{ :; }", 7);
    due(": | :", 2 * 57);
    due("! :", 7);
    due("if :; then :; fi", 14);
    due("while false; do :; done", 1 + 5 + 6);
    due("for i in a b; do :; done", 2 + 2 + 2 * (1 + 7));
    due("for i in; do :; done", 0);
    due("case ab in a|ab) :;; x) esac", 3 + 2 + 3 + 7);
    due("f() { :; }", 0);
    due("f() { :; }; f", 7 + 7);
    due("eval :", 5 + 5 + 2 + 5 + 1 + 7);
    due("> f", 5 + 2);
    due(": > f >> gg", 5 + 2 + 2 + 3);
    due("cat << E\nab\nE\n", 5 + 4 + 4 + 3 + 3);
    due("cat << 'E'\nab\nE\n", 5 + 4 + 3 + 3);
    due("echo ab | cat", 50 + 5 + 5 + 3 + 3 + 50 + 5 + 4 + 3 + 3);
    due("read x y << 'E'\nab c\nE\n", 5 + 5 + 2 + 2 + 5);
    due(")", 0);
    due("eval ')'", 5 + 5 + 2 + 5 + 1);
    due("exit 3; :", 5 + 5 + 2);
  }

  private static void workOfWords() {
    due("x=ab; : $x", 5 + 3 + 5 + 2 + 3 + 3);
    due(": $x", 5 + 2 + 1);
    due(": \"$x\"", 5 + 2 + 1 + 1);
    due(": ''", 5 + 2 + 1);
    due(": ${x-ab}", 5 + 2 + 3 + 3 + 3);
    due(": ${x+ab}", 5 + 2 + 1);
    due("x=ab; : ${x-cd}", 5 + 3 + 5 + 2 + 3 + 3);
    due(": ${x:=ab}", 5 + 2 + 3 + 3 + 3);
    due("x=abc; : ${x#a}", 5 + 4 + 5 + 2 + 2 + 3 + 3);
    due(": ${#x} $# $?", 5 + 2 + 2 + 2 + 2 + 2 + 2 + 2);
    due(": $((1 + 1))", 5 + 2 + 6 + 2 + 2);
    due(": $(:)", 5 + 2 + 50 + 5 + 1 + 7 + 1);
    due(": $()", 5 + 2 + 50 + 5 + 1);
    due(": $( ) \"$( )\"", 5 + 2 + 2 * (50 + 5 + 1 + 1) + 1);
    due(": $(echo a)", 5 + 2 + 50 + 5 + 6 + 5 + 5 + 2 + 2 + 2 + 2);
    due("set ab c; : $@", 5 + 4 + 3 + 2 + 5 + 2 + 3 + 2 + 3 + 2);
    due("set ab c; : \"$@\"", 5 + 4 + 3 + 2 + 5 + 2 + 3 + 2 + 3 + 2);
    due("set ab c; : \"$*\"", 5 + 4 + 3 + 2 + 5 + 2 + 5 + 5);
    due("set ab c; x=$@", 5 + 4 + 3 + 2 + 5 + 5 + 5);
    due("x='a b'; : $x", 5 + 4 + 5 + 2 + 4 + 2 + 2);
    due("x=y; case $x in $x) esac", 5 + 2 + 2 + 2 + 2 + 2);
    int three = 5 + 2 + 5 + 3 + 5 + 3;
    due("> a; > ab; > bc; : a ? a\\* 'ab' \"b*\"", three + 5 + 2 + 2 + 2 + 3 + 3 + 3);
    due("> a; > ab; > bc; : a*", three + 5 + 2 + 2 + 3);
    due("> a; > ab; > bc; : '' a?'' \"\"[!a]*", three + 5 + 2 + 1 + 3 + 3);
    due("> a; > ab; > bc; : x*", three + 5 + 2 + 3);
    due("> a; > ab; > bc; set -f; : a*", three + 5 + 4 + 3 + 5 + 2 + 3);
    due("> a; p='* bc'; : $p$(> de)", 5 + 2 + 5 + 5 + 5 + 2 + 5 + 50 + 5 + 4 + 5 + 3 + 1 + 2 + 3 + 3);
    // A WORD whose expansion ends the COPY has no fields.
    due("p='a bc'; (: $p${x?})", 5 + 5 + 50 + 5 + 2 + 5);
    due("p='a bc'; (: b$p \"$p\"$p${x?} c)", 5 + 5 + 50 + 5 + 2 + 5 + 3 + 3 + 5 + 5);
  }

  private static void outOfWork() {
    Kit k = Kit.fresh();
    Kit.due("endless", k.status("while :; do :; done"), -1);
    // 24 for the script, 15 for each round: the next step would be 5.
    int rest = (150000 - 24) % 15;
    Kit.due("WORK stays", k.house().count(0), 150000 - rest + (rest > 0 ? 1 : 0) + (rest >= 6 ? 5 : 0));
    Kit.due("no more", k.status(":"), -1);
    Kit.due("nor nothing", Kit.fresh().status(""), 0);
    Kit f = Kit.fresh();
    Kit.due("endless until", f.status("echo a > f; until false; do echo b > f; done"), -1);
    Kit.due("files are as they are then", f.file("f"), "b\n");
    Kit.due("wrong", f.house().wrong(), -1);
    Kit.due("run again", f.status("echo"), -1);
    Kit.due("OUT of that", f.house().size(), 0);
    Kit.due("in a COPY", Kit.fresh().status("(while :; do :; done); echo a"), -1);
    Kit.due("in $( )", Kit.fresh().status("x=$(while :; do :; done) || echo a"), -1);
    Kit.due("in a PIPE", Kit.fresh().status("while :; do :; done | cat"), -1);
  }

  /** Bytes come OUT, and are taken, one behind the other until WORK would be above. */
  private static void bytesOfWork() {
    // 150000 less the WORK ahead of the echo, which is its script's, 5, and its fields'.
    for (int left = 1; left < 8; left++) {
      Kit k = fewLeft(5 + "echo abcdef".length() + 5 + 5 + 7 + left);
      Kit.due("echo with WORK for " + left, k.status("echo abcdef"), left < 7 ? -1 : 0);
      Kit.due("OUT of that", Kit.out(k.house()), "abcdef\n".substring(0, left));
      Kit.due("WORK of that", k.house().count(0), 150000);
    }
    for (int left = 1; left < 7; left++) {
      Kit k = fewLeft(5 + "echo a b >f".length() + 5 + 5 + 2 + 2 + 2 + left);
      Kit.due("a file with WORK for " + left, k.status("echo a b >f"), left < 4 ? -1 : 0);
      Kit.due("the file", k.file("f"), "a b\n".substring(0, Math.min(4, left)));
    }
    for (int left = 0; left < 8; left++) {
      Kit k = fewLeft(5 + "cat".length() + 5 + 4 + left);
      Kit.due("cat with WORK for " + left, k.with("abcd").status("cat"), left < 8 ? -1 : 0);
      Kit.due("OUT of cat", Kit.out(k.house()), "abcd".substring(0, Math.max(0, left - 4)));
      Kit.due("WORK of cat", k.house().count(0), 150000);
      Kit r = fewLeft(5 + "read".length() + 5 + 5 + left);
      Kit.due("read with WORK for " + left, r.with("abcd\nef").status("read"), left < 5 ? -1 : 0);
      Kit.due("WORK of read", r.house().count(0), 150000 - Math.max(0, left - 5));
    }
    // Fields, texts and values come whole or not, and so does all else.
    notWhole(": abc", 5 + 2, 4);
    notWhole(": ''", 5 + 2, 1);
    notWhole(": 'a b'", 5 + 2, 4);
    notWhole("x=abc", 5, 4);
    notWhole("x=", 5, 1);
    notWhole("> fgh", 5, 4);
    notWhole("case abc in a) esac", 0, 4);
    notWhole("case a in abc) esac", 2, 4);
    notWhole("cat << E\nab\nE\n", 5 + 4, 4);
    notWhole(": ${#} $?", 5 + 2 + 2 + 2, 2);
    notWhole("set abc; : $1", 5 + 4 + 4 + 5 + 2, 4);
    notWhole("set ab c; : \"$*\"", 5 + 4 + 3 + 2 + 5 + 2, 5);
    // The values of a WORD come ahead of its fields.
    notWhole("set ab c; : $@", 5 + 4 + 3 + 2 + 5 + 2, 3);
    notWhole("set ab c; : $@", 5 + 4 + 3 + 2 + 5 + 2 + 3, 2);
    notWhole("set ab c; : $@", 5 + 4 + 3 + 2 + 5 + 2 + 3 + 2, 3);
    notWhole("set ab c; : $@", 5 + 4 + 3 + 2 + 5 + 2 + 3 + 2 + 3, 2);
    notWhole("x='a bc'; : $x$x", 5 + 5 + 5 + 2 + 5, 5);
    notWhole("x='a bc'; : $x$x", 5 + 5 + 5 + 2 + 5 + 5 + 2, 4);
    notWhole("> abc; x='* d'; : $x$y", 5 + 4 + 5 + 4 + 5 + 2 + 4, 1);
    notWhole("> abc; x='* d'; : $x$y", 5 + 4 + 5 + 4 + 5 + 2 + 4 + 1, 4);
    notWhole("> abc; x='* d'; : $x$y", 5 + 4 + 5 + 4 + 5 + 2 + 4 + 1 + 4, 2);
    notWhole(": ${x-abc}", 5 + 2, 4);
    notWhole(": ${x-abc}", 5 + 2 + 4, 4);
    notWhole(": $((1+2))", 5 + 2, 4);
    notWhole(": $((1+2))", 5 + 2 + 4, 2);
    notWhole("> abc; : a*", 5 + 4 + 5 + 2, 4);
    notWhole(":", 0, 5);
    notWhole("x=", 0, 5);
    notWhole("(:)", 0, 50);
    notWhole(": | :", 57, 50);
    notWhole(": $(echo)", 5 + 2, 50);
    notWhole(": $(echo)", 5 + 2 + 50, 5 + 4);
    notWhole("eval abc", 5 + 5 + 4, 5 + 3);
    notWhole("for i in a; do :; done", 2, 1);
    notWhole("while false; do :; done", 0, 1);
    // A script that is not begun.
    Kit k = fewLeft(7);
    Kit.due("a script of 3", k.status("f(x"), -1);
    Kit.due("it is not read", k.house().wrong(), -1);
    Kit.due("WORK ahead of it", k.house().count(0), 150000 - 7);
    Kit.due("a script of 2", k.status("f("), 2);
    Kit.due("WORK of it", k.house().count(0), 150000);
    Kit.due("a script of none", k.status(""), -1);
  }

  /** With 1 less than the step costs the run ends, and WORK is what it was ahead of the step. */
  private static void notWhole(String s, int ahead, int step) {
    Kit k = fewLeft(script(s) + ahead + step - 1);
    Kit.due("no WORK for a step of " + step + " of " + Kit.show(s), k.status(s), -1);
    Kit.due("WORK ahead of it", k.house().count(0), 150000 - step + 1);
  }

  /** A house that has so much WORK left. */
  private static Kit fewLeft(int left) {
    Kit k = Kit.fresh();
    String script = "while test ${#x} -lt 1400; do x=aaaaaaaa$x; done; while test ${#y} != 79; do y=a$y; : $x; done";
    k.status(script);
    while (150000 - k.house().count(0) - left > 2000) {
      k.status(Kit.times(" ", 1000));
    }
    int more = 150000 - k.house().count(0) - left;
    while (more > 0) {
      int some = more > 1010 ? 1000 : more;
      k.status(Kit.times(" ", some - 5));
      more -= some;
    }
    Kit.due("WORK left", 150000 - k.house().count(0), left);
    return k;
  }

  /** However much a round does without WORK, the loop goes on until WORK would be above. */
  private static void longRounds() {
    String free = Kit.times("! f()(:)||", 190) + "f()(:)";
    String[] scripts = {"while " + free + ";do " + "f()(:);done",
        "until ! { " + free.substring(40) + ";};do f()(:);done",
        "while " + Kit.times("for i in;do :;done;", 100) + "do f()(:);done",
        "while " + Kit.times("{ f()(:);}<<E\\F;", 50) + "do case a in b)esac;done\n" + Kit.times("a\nEF\n", 50),
        "x='while " + Kit.times("! f()(:)||", 80) + "f()(:);do f()(:);done';y='eval \"$x\"';eval 'eval \"$y\"'",
        "g()while " + Kit.times("! f()(:)||", 150) + "f()(:);do f()(:);done;g;g"};
    for (String s : scripts) {
      Kit k = Kit.fresh();
      Kit.due("long rounds: " + s.substring(0, 30), k.status(s), -1);
      Kit.due("WORK of them", k.house().count(0) > 149990, true);
    }
  }

  private static void bytesOfTexts() {
    String thousand = "x=aaaaaaaaaa; x=$x$x$x$x$x; x=$x$x$x$x; x=$x$x$x$x$x; ";
    for (int over = 0; over < 4; over++) {
      String rest = "abcd".substring(0, over + 1);
      Kit k = Kit.fresh();
      Kit.due("OUT", k.status(thousand + "x=${x%aaa}; y=$x$x; echo $y; echo $y; echo 12345; echo " + rest),
          over < 3 ? 0 : -2);
      Kit.due("bytes of OUT", k.house().size(), Math.min(4000, 2 * 1995 + 6 + rest.length() + 1));
      Kit f = Kit.fresh();
      Kit.due("file", f.status(thousand + "x=${x%aaa}; { echo $x; echo $x; echo " + rest + "; } > f"),
          over < 3 ? 0 : -2);
      Kit.due("bytes of the file", f.house().count(3), Math.min(2000, 2 * 998 + rest.length() + 1));
    }
    // The byte that would be above has no WORK.
    Kit a = Kit.fresh();
    a.status(thousand + "for i in 1 2 3; do echo $x; done; y=${x%aaaa}; echo $y");
    Kit b = Kit.fresh();
    b.status(thousand + "for i in 1 2 3; do echo $x; done; y=${x%aaaa}; echo ${y}a");
    Kit.due("OUT is full", b.house().size(), 4000);
    Kit.due("three of the script, one of the field", b.house().count(0) - a.house().count(0), 3 + 1);
    Kit p = Kit.fresh();
    Kit.due("a PIPE's", p.status(thousand + "{ echo $x; echo $x; } | cat"), -2);
    Kit.due("nothing of it in OUT", p.house().size(), 0);
    Kit c = Kit.fresh();
    Kit.due("cat to itself", c.status(thousand + "echo $x > f; cat f f f > g"), -2);
    Kit.due("2000 of 3003", c.house().byteOf(1, false, 1999), (int) 'a');
    Kit.due("f and g", c.house().count(3), 1001 + 2000);
  }

  private static void texts() {
    String ten = "x=aaaaaaaaaa; ";
    String fifty = ten + "x=$x$x$x$x$x; ";
    String thousand = fifty + "x=$x$x$x$x; x=$x$x$x$x$x; ";
    Kit.check(thousand + "x=$x$x; echo ${#x}", "2000\n");
    String[] above = {"x=$x${x}a", ": $x${x}a", ": \"$x $x\"", "set $x $x; : \"$*\"", "set $x $x; y=$*", "echo $x $x > f",
        "y=$(echo $x; echo $x)", "{ echo $x; echo $x; } | cat", "eval : $x $x", "cat << E\n$x$x\nE\n",
        "echo $x > f; echo $x >> f", "case $x${x}a in a) ;; esac", ": ${y-$x${x}a}", "echo $x > f; cat f >> f",
        "for i in 1 2 3; do echo $x; done > f", ": > $x${x}a", ": $((1$x$x))", "{ (echo $x; echo $x); } | :",
        "y=$(echo $x$x)"};
    for (String s : above) {
      Kit k = Kit.fresh();
      Kit.due("text above 2000: " + s, k.status(thousand + s), -2);
    }
    String[] fine = {"set $x $x; : \"$@\"", ": $x $x", "y=$x; : $y$x", "echo $x > f", "y=$(echo $x; echo a)",
        "echo $x; echo $x; echo $x", "set $x $x; : $*", "echo ${x#a}${x#a} > f"};
    for (String s : fine) {
      Kit k = Kit.fresh();
      Kit.due("text not above: " + s, k.status(thousand + s), 0);
    }
    // The last one of a PIPE puts OUT where the PIPE does.
    Kit last = Kit.fresh();
    Kit.due("a PIPE's end", last.status(thousand + ": | { echo $x; echo $x; (echo $x); }"), 0);
    Kit.due("OUT of it", last.house().size(), 3 * 1001);
    Kit.due("a PIPE's end in $( )", last.status(thousand + ": $(: | { echo $x; echo $x; })"), -2);
    Kit k = Kit.fresh();
    Kit.due("OUT above 4000", k.status(thousand + "x=${x%a}; for i in 1 2 3 4 5; do echo $x; done"), -2);
    Kit.due("OUT is 4000 at most", k.house().size(), 4000);
    Kit f = Kit.fresh();
    Kit.due("a file of 2000", f.status(thousand + "x=${x%a}; echo $x > f; echo $x >> f; echo > f; cat f"), 0);
    Kit.due("a file above 2000", f.status(thousand + "echo $x > g; echo $x > f; echo >> f; cat f >> f"), -2);
    Kit.due("files stay", f.house().count(2), 2);
  }

  private static void numbers() {
    StringBuilder sixty = new StringBuilder();
    StringBuilder thirty = new StringBuilder();
    StringBuilder twenty = new StringBuilder();
    for (int i = 0; i < 60; i++) {
      sixty.append("v" + i + "=; ");
      thirty.append(i < 30 ? "f" + i + "() { :; }; " : "");
      twenty.append(i < 20 ? "> f" + i + "; " : "");
    }
    Kit.check(sixty + "v7=1; unset v8; w=2; echo $v7$w", "12\n");
    // Variables that hold for a command are gone behind it; to bring one back that is gone needs its room.
    String most = sixty.substring(0, sixty.indexOf("v59"));
    Kit.check(most + "w=1 true; y=1 true; w=1 y=2 :", -3, "", "");
    Kit.check(most + "w=1 true; y=1 true; z=1 true; w=1; echo $w", "1\n");
    Kit.check(sixty + "f() { unset v0; w=1; }; v0=1 f; echo a", -3, "", "");
    Kit.check(sixty + "f() { unset v0; }; v0=1 f; w=1; echo a", -3, "", "");
    Kit.check(sixty + "f() { unset v0; w=1; unset v1; }; v0=1 f; echo a", "a\n");
    backAsBefore();
    String[] more = {"w=1", ": ${w:=1}", "for w in a; do :; done", "read w", "w=1 true", "(w=1)", ": $(w=1)"};
    for (String s : more) {
      Kit.due("61 variables: " + s, Kit.fresh().status(sixty + s), -3);
    }
    Kit.check(sixty + "unset v1; (w=1); x=1; echo a", "a\n");
    Kit.check(thirty + "f3() { echo a; }; f3; unset f4; g() { echo b; }; g", "a\nb\n");
    Kit.due("31 functions", Kit.fresh().status(thirty + "g() { :; }"), -3);
    Kit k = Kit.fresh();
    Kit.due("20 files", k.status(twenty + "> f3; echo a > f19; cat f19"), 0);
    Kit.due("21 files", k.status("echo a > f1; echo b > g; echo c > f1"), -3);
    Kit.due("files", k.house().count(2), 20);
    Kit.due("f1", k.file("f1"), "a\n");
    Kit.check(":" + Kit.times(" a", 99) + "; echo b", "b\n");
    Kit.due("101 fields", Kit.fresh().status(":" + Kit.times(" a", 100)), -3);
    Kit.due("101 fields of for", Kit.fresh().status("for i in" + Kit.times(" a", 101) + "; do :; done"), -3);
    Kit.check("for i in" + Kit.times(" a", 100) + "; do :; done; echo b", "b\n");
    Kit.check("set" + Kit.times(" a", 99) + "; echo $#; for i; do :; done", "99\n");
    // They are told apart when the WORD has been expanded: ahead of that it can end the COPY.
    String many = "x='" + Kit.times("a ", 101) + "'; ";
    Kit.check(many + "(: $x${y?}); echo $?", 0, "1\n", "3");
    Kit.check(many + "set '' '' ''; (: b$x\"$@\"$((y z))); echo $(: $x${}; echo no)$?", 0, "1\n", "64");
    Kit.check(many + "(: $x ${y?}); echo $?", -3, "", "");
    Kit.check(many + "(: $x$(echo > f)); echo $?", -3, "", "");
    Kit.due("what stands behind them is expanded", fileOf(many + ": $x$(echo > f)"), "\n");
    Kit.due("what stands in the next WORD is not", fileOf(many + ": $x $(echo > f)"), null);
    Kit.due("fields of names", Kit.fresh().status(twenty + "x='* * * * *'; set $x"), -3);
    Kit d = Kit.fresh();
    Kit.due("100 DIAGNOSTICS", d.status("i=0; while test $i != 100; do i=$((i+1)); no; done"), 127);
    Kit.due("100 DIAGNOSTICS", d.house().count(4), 100);
    Kit.due("101 DIAGNOSTICS", d.status("i=0; while test $i != 101; do i=$((i+1)); no; done; echo"), -3);
    Kit.due("100 DIAGNOSTICS still", d.house().count(4), 100);
    Kit.due("the 100th", d.house().diagnostic(99), 1);
    Kit.due("no 101st", d.house().diagnostic(100), -1);
  }

  /** What ASSIGNMENTS ahead of a command bring back, they bring back at once, whatever their order is. */
  private static void backAsBefore() {
    String[] aheads = {"a=1", "a=1 a=2", "a=1 b=2", "b=1 a=2", "a=1 b=2 a=3", "a=1 a=2 b=3", "b=1 > a a=2", "a=1 > b b=2 a=3",
        "a=1 b=2 c=3", "a=1 c=2 b=3", "b=1 a=2 c=3", "b=1 c=2 a=3", "c=1 a=2 b=3", "c=1 b=2 a=3", "c=1 b=2 c=3 a=4 a=5 b=6",
        "c=1 > b b=2 >> a c=3 a=4"};
    for (String ahead : aheads) {
      for (int set = 0; set < 8; set++) {
        for (int gone = 0; gone < 8; gone++) {
          backAsBefore(ahead, set, gone);
        }
      }
    }
    // In one another: each brings back what was before it.
    String two = "g() { unset a; unset b;" + others(58) + "; }; ";
    String three = "g() { unset a; unset b;" + others(59) + "; }; ";
    Kit.check(two + "h() { b=3 b=4 a=5 g; echo $a$b; }; a=0; b=2 a=1 h; echo $a${b-no}", "12\n0no\n");
    Kit.check(three + "h() { b=3 b=4 a=5 g; echo $a$b; }; a=0; b=2 a=1 h; echo $a${b-no}", -3, "", "");
    // Behind a return, an eval and in a COPY, too.
    Kit.check(three + "h() { while :; do eval 'g; return 3'; done; }; a=0; b=2 a=1 c=3 h; echo $? $a ${b-no} ${c-no}",
        "3 0 no no\n");
    Kit.check(three + "a=0; (b=2 a=1 g; echo $a ${b-no}); echo $(b=2 a=1 g; echo $a ${b-no}) $a | cat",
        "0 no\n0 no 0\n");
    Kit.check(three + "(a=0; c=1; b=2 a=1 g; echo $a); echo $?", -3, "", "");
    Kit.check("f() { echo $a$b$c; unset a; b=7; }; a=0; a=1 b=$a c=$b a=2 b=$a f; echo $a ${b-no} ${c-no}",
        "221\n0 no no\n");
    Kit.check("a=0; a=1 a=2 true; echo $a; b=1 b=2 true; echo ${b-no}; a=1 a=2 :; echo $a", "0\nno\n2\n");
    // What := makes of the variable ahead of its ASSIGNMENT stays.
    Kit.check("b=${a:=5} a=2 true; echo $a; c=1 b=${c:=5} c=3 true; echo ${c-no}", "5\nno\n");
  }

  /** Some of a b c are set, ASSIGNMENTS stand ahead of a FUNCTION that unsets some and sets others up to 60. */
  private static void backAsBefore(String ahead, int set, int gone) {
    StringBuilder before = new StringBuilder();
    StringBuilder unset = new StringBuilder("unset");
    StringBuilder due = new StringBuilder();
    int within = 0;
    int behind = 0;
    for (int i = 0; i < 3; i++) {
      char name = (char) ('a' + i);
      boolean wasSet = (set >> i & 1) != 0;
      boolean goes = (gone >> i & 1) != 0;
      boolean assigned = ahead.indexOf(name + "=") >= 0;
      boolean comesBack = wasSet && (assigned || !goes);
      before.append(wasSet ? name + "=" + (7 + i) + "; " : "");
      unset.append(goes ? " " + name : "");
      due.append(comesBack ? 7 + i : "no").append(' ');
      within += (wasSet || assigned) && !goes ? 1 : 0;
      behind += comesBack ? 1 : 0;
    }
    for (int n = 59 - within; n <= 60 - within; n++) {
      String script = "f() { " + unset + ";" + others(n) + "\n}; " + before + ahead + " f; echo ${a-no} ${b-no} ${c-no} [$v56]";
      boolean fits = n + behind <= 60;
      Kit.check(script, fits ? 0 : -3, fits ? due + "[]\n" : "", "");
    }
  }

  /** So many ASSIGNMENTS. */
  private static String others(int n) {
    StringBuilder b = new StringBuilder();
    for (int i = 0; i < n; i++) {
      b.append(" v" + i + "=");
    }
    return b.toString();
  }

  /** What the file f has when a LIMIT has ended the script. */
  private static String fileOf(String script) {
    Kit k = Kit.fresh();
    Kit.due(script, k.status(script), -3);
    return k.file("f");
  }

  private static void levels() {
    Kit.check("f() { test $1 = 10 || f $(($1+1)); echo $1; }; f 1; :", 0,
        "10\n9\n8\n7\n6\n5\n4\n3\n2\n1\n", "");
    Kit.due("11 FUNCTIONS", Kit.fresh().status("f() { test $1 = 11 || f $(($1+1)); }; f 1"), -4);
    Kit.due("endless FUNCTIONS", Kit.fresh().status("f() { f; }; f; echo a"), -4);
    Kit.due("in a PIPE", Kit.fresh().status("f() { f | f; }; f"), -4);
    Kit.due("evals", Kit.fresh().status("x='eval \"$x\"'; eval \"$x\""), -4);
    Kit.due("$( )", Kit.fresh().status("f() { echo $(f); }; f"), -4);
    Kit.due("COPIES", Kit.fresh().status("f() { (f); }; f"), -4);
    // Ten of each kind, and one more.
    String ten = Kit.times("(", 10) + "%" + Kit.times(")", 10);
    Kit.check(ten.replace("%", "echo a"), "a\n");
    for (String one : new String[] {": $(:)", ": | :", "eval :", "f", "x=$(:)", "> $(echo f)"}) {
      Kit.check("f() { :; }; " + ten.replace("%", one), -4, "", "");
      Kit.check("f() { :; }; " + Kit.times("(", 9) + one + Kit.times(")", 9) + "; echo a", "a\n");
    }
    String six = "$(echo $(echo $(echo $(echo $(echo $(echo a))))))";
    Kit.check("((((echo " + six + "))))", "a\n");
    Kit.check("(((((echo " + six + ")))))", -4, "", "");
    Kit.check("x='eval \"$x\"'; i=0; x='i=$((i+1)); test $i = 10 || eval \"$x\"'; eval \"$x\"; echo $i", "10\n");
    Kit.check("i=0; x='i=$((i+1)); test $i = 11 || eval \"$x\"'; eval \"$x\"; echo $i", -4, "", "");
    // A COPY's WORK comes ahead of its level, a FUNCTION or an eval that is one too many has none.
    Kit.work(ten.replace("%", "(:)").replace("(:)", ": | :"), 5 + 25 + 11 * 50);
    Kit.work(ten.replace("%", "x=$(:)"), 5 + 26 + 11 * 50 + 5);
    Kit.work(ten.replace("%", "eval :"), 5 + 26 + 10 * 50 + 5 + 5 + 2);
    Kit.work("f(){ :;};" + ten.replace("%", "f"), 5 + 30 + 10 * 50 + 5 + 2);
    Kit.check("f() { (test $1 = 5 || f $(($1+1))); }; f 1; echo a", "a\n");
    Kit.due("FUNCTIONS and COPIES", Kit.fresh().status("f() { (test $1 = 6 || f $(($1+1))); }; f 1; echo a"), -4);
    Kit.check("f() { :; }; for i in 1 2 3 4 5 6 7 8 9 10 11 12; do f; eval f; (f); x=$(f); f | f; done; echo a", "a\n");
    Kit.check("f() { return; }; g() { for i in 1; do eval 'break'; done; (exit); f; }; "
        + "for j in 1 2 3 4 5 6 7 8 9 10 11 12; do g; eval 'continue'; done; echo a", "a\n");
  }

  private static void afterwards() {
    Kit k = Kit.fresh();
    Kit.due("a LIMIT", k.status("echo a; x=1; f() { f; }; f"), -4);
    Kit.due("OUT of it", Kit.out(k.house()), "a\n");
    k.run("echo b $x; f", 127, "b\n", "1");
    k.run("(echo a; (echo b; f() { f; }; f)) | cat", -4, "", "");
    k.run("echo c | cat", "c\n");
    k.run("for i in 1 2; do x=$(f() { f; }; f); done", -4, "", "");
    k.run("for i in 1 2; do echo $i; done", "1\n2\n");
  }
}
