/** RUNNING: commands, redirections, pipes, loops, functions, COPIES and ERRORS. */
public final class RunningTest {
  public static void main(String[] args) {
    assignments();
    redirections();
    failures();
    inputs();
    pipes();
    andOrs();
    conditions();
    loops();
    choices();
    functions();
    copies();
    errors();
    Kit.finish();
  }

  private static void assignments() {
    Kit.check("x=1; x=2 y=$x; echo $x $y", "2 2\n");
    Kit.check("f() { echo $x; }; x=1; x=2 f; echo $x; y=3 f; echo [$y]", "2\n1\n1\n[]\n");
    Kit.check("f() { x=5; y=6; }; x=1; x=2 f; echo $x $y", "1 6\n");
    Kit.check("f() { unset x; }; x=1; x=2 f; echo $x", "1\n");
    Kit.check("x=1; x=2 x=3 true; echo $x; x=4 nosuch; echo $x", 0, "1\n1\n", "1");
    for (String keeps : new String[] {":", "set", "shift 0", "unset y", "eval :"}) {
      Kit.check("x=1; x=2 " + keeps + "; echo $x", "2\n");
    }
    for (String not : new String[] {"true", "echo", "test a", "cat", "read y", "f"}) {
      Kit.check("f() { :; }; x=1; x=2 " + not + " > o; echo $x", "1\n");
    }
    Kit.check("for i in a b; do x=$i break; done; echo $x; for i in a b; do x=$i continue; done; echo $x",
        "a\nb\n");
    Kit.check("f() { x=2 return 3; }; x=1; f; echo $x $?", "2 3\n");
    Kit.check("set() { :; }; x=1; x=2 set; echo $x", "1\n");
    Kit.check("x=1; x=2 echo $x; x=3 eval 'echo $x'", "1\n3\n");
    // Words first, then REDIRECTIONS, then ASSIGNMENTS.
    Kit.check("echo old > f; x=$(cat < f) > f; echo [$x]", "[]\n");
    Kit.check("y=1; x=$(echo $y) y=2 : ${y:=3} > $y; echo $x $y *", "1 2 1\n");
    Kit.check("echo a > f; x=$(cat) < f; echo $x", "a\n");
    Kit.check("x=1 < no; echo $? [$x]", 0, "1 []\n", "2");
    Kit.check("x=1; x=3 true; x=2 :; echo $x; f() { x=4 :; }; x=5 f; echo $x", "2\n2\n");
    Kit.check("a=1 b=2 c=3 d=4 e=5 g=6; f() { echo $a$b$c$d$e$g; }; a=g b=h c=i d=j e=k g=l h=m f; echo $a$b$c$d$e$g$h",
        "ghijkl\n123456\n");
    Kit.check("a=1 b=2 c=3 d=4; a=5 b=6 c=7 d=8 true; echo $a$b$c$d; x=9 true; a=5 b=6 c=7 d=8 x=9 y=0 true; echo $a$b$c$d[$x$y]",
        "1234\n1234[]\n");
    String eight = "a=1 b=2 c=3 d=4 e=5 g=6 h=7 i=8";
    Kit.check(eight + "; x=9 true; a= b= c= d= true; " + eight.replaceAll("=.", "=x") + " true; echo $a$b$c$d$e$g$h$i[$x]",
        "12345678[]\n");
    // A WORD ends the ASSIGNMENTS, even one that gives no field.
    Kit.check("x=1 $none y=2; echo [$x] [$y]", 0, "[] []\n", "1");
  }

  private static void redirections() {
    Kit k = Kit.fresh();
    k.run("echo a > f; echo b > f; echo c >> f; echo d >> g", "");
    Kit.due("f", k.file("f"), "b\nc\n");
    Kit.due("g", k.file("g"), "d\n");
    k.run("cat < f; > f; cat f; >> g; cat g", "b\nc\nd\n");
    k.run("{ echo a; echo b >> f; echo c; } > f; cat f", "a\nb\nc\n");
    k.run("{ echo a; echo b > f; echo c; } > f; cat f", "b\nc\n");
    k.run("echo a > f > g; cat f; echo -; cat g", "-\na\n");
    k.run("echo x > f; echo y > g; cat < f < g; cat < f < no; echo $?", 0, "y\n1\n", "2");
    k.run("echo x > f; cat < f >> f; cat f", "x\nx\n");
    k.run("echo x > f; cat < f > f; cat f; echo $?", "0\n");
    k.run("nosuch > h; cat h; echo $?", 0, "0\n", "1");
    k.run("x='a b'; echo c > $x; cat 'a b'; echo d > \"$x\"e; cat 'a be'", "c\nd\n");
    k.run("if true; then echo a; fi > i; while read x; do echo $x$x; done < i > j; cat j", "aa\n");
    k.run("for x in a b; do echo $x; done > i; case a in a) cat;; esac < i", "a\nb\n");
    k.run("( echo a; echo b ) > i; ( cat ) < i", "a\nb\n");
    k.run("f() { echo f; cat; }; echo in > i; f < i > o; cat o", "f\nin\n");
    k.run("eval 'echo a; echo b' > o; cat o; echo c", "a\nb\nc\n");
    k.run("x=$(echo a > o); echo [$x]; cat o", "[]\na\n");
    k.run("cat << A > o; cat o\n1\nA\n", "1\n");
    k.run("cat << 'A' << B << 'C'\n1\nA\n2\nB\n3\nC\n", "3\n");
    k.run("while read x; do break; done < i > o; echo a", "a\n");
    k.run("for i in 1 2; do echo $i > o; continue > p; done; cat o; echo b", "2\nb\n");
  }

  private static void failures() {
    String[] plain = {"echo a", "true", "x=1", "{ echo a; }", "( echo a )", "if true; then echo a; fi",
        "for i in a; do echo a; done", "while true; do echo a; done", "case a in a) echo a;; esac", "f", "nosuch",
        "cat", "test a", "read x", "echo", ""};
    for (String command : plain) {
      Kit.check("f() { echo f; }; " + command + " < no; echo $?", 0, "1\n", "2");
      Kit.check("f() { echo f; }; " + command + " > \"\"; echo $?", 0, "1\n", "2");
      Kit.check("f() { echo f; }; " + command + " >> $none; echo $?", 0, "1\n", "2");
    }
    for (String command : new String[] {":", "set a", "shift", "unset x", "eval echo", "return 5", "break",
        "continue", "exit 5"}) {
      Kit.check("echo a; " + command + " < no; echo b", 1, "a\n", "2");
      Kit.check("(echo a; " + command + " < no; echo b); echo $?", 0, "a\n1\n", "2");
      Kit.check("x=1 " + command + " < ''", 1, "", "2");
    }
    Kit.check("set() { echo; }; set < no; echo $?", 0, "1\n", "2");
    // From the left: what stands behind the one that fails is not done.
    Kit.check("echo a > f < no > g; test -e f; echo $?; test -e g; echo $?", 0, "0\n1\n", "2");
    Kit.check("f() { echo a; } < no; f; echo $?", 0, "1\n", "2");
    Kit.check("echo a | cat < no; echo $?", 0, "1\n", "2");
    Kit.check("x=5 < no; echo [$x]; y=$(echo a < no); echo $?", 0, "[]\n1\n", "22");
  }

  private static void inputs() {
    Kit.fresh().with("a\nb\nc\nd").run("read x; (read y; echo $y); z=$(read z; echo $z); echo $x $z; cat",
        "b\na c\nd");
    Kit.fresh().with("a\nb\n").run("f() { read x; }; f; echo $x; { read x; }; echo $x; read x; echo $?",
        "a\nb\n1\n");
    Kit.check("echo a > f; echo b >> f; { read x; read y; } < f; echo $x $y; read z < f; echo $z", "a b\na\n");
    Kit.check("echo a > f; { read x; echo b >> f; read y; } < f; echo $x $y", "a b\n");
    Kit.check("echo a > f; { read x; > f; read y; echo $?; } < f; echo $x [$y]", "1\na []\n");
    Kit.check("echo a > f; { read x; echo bbbbbbbbbbbbbbbbbbbbbbbb >> f; read y; } < f; echo $x $y",
        "a bbbbbbbbbbbbbbbbbbbbbbbb\n");
    Kit.check("echo ab > f; { read x; echo c > f; read y; echo $?; echo de >> f; read z; } < f; echo $x [$y] $z",
        "1\nab [] e\n");
    Kit.fresh().with("a\nb\n").run("read x << 'E'\nq\nE\nread y; cat << 'E'; cat\nr\nE\necho $x $y", "r\nb\nq a\n");
    Kit.fresh().with("a\nb\n").run("{ read x; read y << 'F'; cat; read z; } << 'E'\n2\nF\n1\n3\nE\necho $x $y [$z]; cat",
        "3\n1 2 []\na\nb\n");
    Kit.check("cat; read x; echo $?", "1\n");
    Kit.fresh().with("a\nb\n").run("true | read x; read x; echo $x", "a\n");
    Kit.fresh().with("a\nb\n").run("read x | cat; read x; echo $x", "b\n");
    Kit.fresh().with("a\nb\n").run("cat < f; echo c > f; cat < f; cat", 0, "c\na\nb\n", "2");
  }

  private static void pipes() {
    Kit.check("echo a b | cat | { read x y; echo $y $x; }", "b a\n");
    Kit.check("x=1; x=2 | x=3; echo $x; true | false; echo $?; false | true; echo $?", "1\n1\n0\n");
    Kit.check("exit 3 | exit 4; echo $?", "4\n");
    Kit.check("! exit 3 | exit 4; echo $?; ! true | true; echo $?", "0\n1\n");
    Kit.check("echo a | true | cat", "");
    Kit.check("false; echo x | echo $?; false; true | echo $?", "1\n1\n");
    Kit.check("(exit 7) | echo $?", "0\n");
    Kit.check("echo a > f | cat; cat f", "a\n");
    Kit.check("echo a | cat > f; cat f", "a\n");
    Kit.check("echo a | read x; echo [$x]", "[]\n");
    Kit.check("{ echo a; echo b; } | while read x; do echo $x$x; done", "aa\nbb\n");
    Kit.check("for i in 1 2; do echo a | break; echo b; done", "b\nb\n");
    Kit.check("f() { echo a | return 3; echo $?; }; f", "3\n");
    Kit.check("echo a | (cat; exit 3; echo b) | cat; echo $?", "a\n0\n");
    Kit.check("echo ${} | echo a; echo $?", 0, "a\n0\n", "4");
    Kit.check("cd() { :; } | echo $?; cd", 127, "0\n", "1");
  }

  private static void andOrs() {
    Kit.check("true && echo a || echo b; false && echo c || echo d", "a\nd\n");
    Kit.check("false || false && echo a; echo $?; true || echo b && echo c", "1\nc\n");
    Kit.check("false && true; echo $?; false || true; echo $?; exit 3 || echo a", 3, "1\n0\n", "");
    Kit.check("! false && echo a; ! true || echo b", "a\nb\n");
    Kit.check("(exit 3) && echo a; echo $?; nosuch || echo $?", 0, "3\n127\n", "1");
    Kit.check("{ echo a; false; } && echo b || { echo c; }", "a\nc\n");
  }

  private static void conditions() {
    Kit.check("if true; false; then echo a; else echo b; fi", "b\n");
    Kit.check("false; if false; then echo a; fi; echo $?", "0\n");
    Kit.check("if true; then false; fi; echo $?; if false; then :; else (exit 4); fi; echo $?", "1\n4\n");
    Kit.check("if false; then :; elif (exit 3); then :; fi; echo $?", "0\n");
    Kit.check("if (exit 3); then :; else echo $?; fi", "3\n");
    Kit.check("if true; then echo a; elif echo b; then echo c; fi", "a\n");
  }

  private static void loops() {
    Kit.check("i=0; while test $i -lt 3; do echo $i; i=$((i+1)); done; echo $?", "0\n1\n2\n0\n");
    Kit.check("i=0; until test $i = 2; do i=$((i+1)); (exit $i); done; echo $?", "2\n");
    Kit.check("false; while false; do :; done; echo $?; false; for i in; do :; done; echo $?", "0\n0\n");
    Kit.check("for i in 1 2; do (exit $i); done; echo $?", "2\n");
    Kit.check("for i in a b c; do if test $i = b; then break; fi; echo $i; done; echo $i $?", "a\nb 0\n");
    Kit.check("for i in a b c; do if test $i = b; then continue; fi; echo $i; done; echo $?", "a\nc\n0\n");
    Kit.check("for i in 1 2; do for j in a b; do continue 2; done; echo no; done; echo $i$j", "2a\n");
    Kit.check("for i in 1 2; do for j in a b; do break 2; done; echo no; done; echo $i$j", "1a\n");
    Kit.check("for i in 1 2; do for j in a b; do break 9; done; echo no; done; echo $i$j", "1a\n");
    Kit.check("for i in 1 2; do for j in a b; do continue 9; done; echo no; done; echo $i$j", "2a\n");
    Kit.check("break; continue 3; echo $?", "0\n");
    Kit.check("for i in 1 2; do (break; echo a); x=$(break; echo b); echo $x; done", "a\nb\na\nb\n");
    Kit.check("f() { break; echo f; }; for i in 1 2; do f; done", "f\nf\n");
    Kit.check("for i in 1 2; do eval 'echo a; break; echo b'; done", "a\n");
    Kit.check("for i in 1 2; do { break; } > o; done; echo a", "a\n");
    Kit.check("for i in 1 2; do case a in a) if true; then continue; fi;; esac; echo b; done; echo $i", "2\n");
    for (String end : new String[] {"break", "continue", "break 1", "continue 1"}) {
      Kit.check("for i in 1 2; do test $i = 2 && " + end + "; (exit 5); done; echo $?", "0\n");
      Kit.check("i=0; while test $i != 2; do i=$((i+1)); test $i = 2 && " + end + "; (exit 5); done; echo $?", "0\n");
      Kit.check("i=0; until test $i = 2; do i=$((i+1)); test $i = 2 && " + end + "; (exit 5); done; echo $?", "0\n");
      Kit.check("false; " + end + "; echo $?", "0\n");
      Kit.check("f() { false; " + end + "; echo $?; }; for i in 1; do f; (false; " + end + "; echo $?); done", "0\n0\n");
    }
    Kit.check("for i in 1 2; do for j in 1 2; do test $i$j = 22 && break 2; (exit 5); done; done; echo $?", "0\n");
    Kit.check("for i in 1 2; do while test $i = 2 && break 2; false; do :; done; (exit 5); done; echo $?", "0\n");
    Kit.check("i=0; while i=$((i+1)); for j in 1; do test $i = 3 && break 2; done; true; do (exit 5); done; echo $?", "5\n");
    // A loop without a round has STATUS 0, whatever one ahead of it had.
    Kit.check("for i in 1; do (exit 5); done; for i in; do :; done; echo $?; for i in 1; do (exit 5); done; while false; do :; done; "
        + "echo $?; for i in 1; do (exit 5); done; until :; do :; done; echo $?", "0\n0\n0\n");
    // break and continue in the first LIST.
    Kit.check("i=0; while i=$((i+1)); test $i = 3 && break; true; do (exit 5); done; echo $i $?", "3 5\n");
    Kit.check("while break; do :; done; echo $?; until break; do :; done; echo $?", "0\n0\n");
    Kit.check("i=0; while i=$((i+1)); test $i = 1 && continue; test $i -lt 4; do echo $i; done", "2\n3\n");
    Kit.check("for i in 1 2; do (exit 3); break; done; echo $?; for i in 1 2; do false || continue; done; echo $?",
        "0\n0\n");
    Kit.check("set 'a b' c; for i do echo $i; set d; done; for i in $1; do echo $i; done", "a b\nc\nd\n");
    Kit.check("x=1; for x in a b; do :; done; echo $x; for y in; do :; done; echo [$y]", "b\n[]\n");
    Kit.check("for i in a b; do echo $i; done > f; cat f", "a\nb\n");
    Kit.check("for i in 1 2; do exit 3; done", 3, "", "");
    Kit.check("f() { for i in 1 2; do return 3; done; }; f; echo $? $i", "3 1\n");
    Kit.check("while true; do while true; do break; done; echo a; break; done; echo b", "a\nb\n");
  }

  private static void choices() {
    Kit.check("case a in b) echo 1;; a) echo 2;; a) echo 3;; esac; echo $?", "2\n0\n");
    Kit.check("false; case a in b) echo 1;; esac; echo $?; case a in a) (exit 3);; esac; echo $?", "0\n3\n");
    Kit.check("false; case a in a) ;; esac; echo $?; case a in a) false; esac; echo $?", "0\n1\n");
    Kit.check("case a in a) false;; *) echo no;; esac; echo $?; case a in (a) (exit 3);; (a|b) echo no; esac; echo $?", "1\n3\n");
    Kit.check("case $(echo a b) in 'a b') echo 1;; esac", "1\n");
    Kit.check("case a in $(echo x >> f; echo b)|$(echo y >> f; echo a)|$(echo z >> f)) cat f;; esac", "x\ny\n");
    Kit.check("x='a b'; case $x in a\\ b) echo 1;; esac; case \"$x\" in $x) echo 2;; esac", "1\n2\n");
    Kit.check("case '' in '') echo 1;; esac; case $none in ?*) echo 2;; *) echo 3;; esac", "1\n3\n");
    Kit.check("case a in ${}) echo 1;; esac", 1, "", "4");
    Kit.check("case a in a) echo 1;; ${}) ;; esac", "1\n");
  }

  private static void functions() {
    Kit.check("f() { echo $# $1; set x y z; echo $# $1; shift; }; set a b; f c; echo $# $1", "1 c\n3 x\n2 a\n");
    Kit.check("f() { return 3; echo no; }; f; echo $?; f() { false; return; }; f; echo $?", "3\n1\n");
    Kit.check("set a b c; shift; f() { echo $1 $#; }; f x; echo $1 $#; f; shift; f y z; echo $1 $#", "x 1\nb 2\n0\ny 2\nc 1\n");
    Kit.check("f() { g; }; g() { :; }; f; return 3; echo no", 3, "", "");
    Kit.check("f() { g; }; g() { :; }; f; (return 3; echo no); echo $?; eval 'return 4; echo no'", 4, "3\n", "");
    Kit.check("f() { g; echo f; }; g() { return 4; }; f", "f\n");
    Kit.check("f() { eval 'return 3; echo no'; echo no; }; f; echo $?", "3\n");
    Kit.check("f() { { return 3; } > o; }; f; echo $?", "3\n");
    Kit.check("f() { (return 3; echo no); echo $?; }; f", "3\n");
    Kit.check("f() { x=$(return 3; echo no); echo $? [$x]; }; f", "3 []\n");
    Kit.check("return 3; echo no", 3, "", "");
    Kit.check("(return 3; echo no); echo $?", "3\n");
    Kit.check("f() { exit 3; }; f; echo no", 3, "", "");
    Kit.check("f() { unset f; echo a; }; f; f", 127, "a\n", "1");
    Kit.check("f() { f() { echo b; }; echo a; }; f; f", "a\nb\n");
    Kit.check("f() { x=1; g() { echo $x; }; }; f; g", "1\n");
    Kit.check("f() { if test $1 -gt 0; then echo $1; f $(($1-1)); fi; }; f 5", "5\n4\n3\n2\n1\n");
    Kit.check("echo() { cat; }; : > f; echo a < f", "");
    Kit.check("f() { return 3; } ; f && echo a || echo $?", "3\n");
    Kit.check("eval 'f() { echo $1; }'; f a", "a\n");
    Kit.check("f() { echo a; }\nunset f; f() { echo b; }; x=f; $x", "b\n");
    Kit.check("f() { f=1; }; f; echo $f", "1\n");
    Kit.check("(f() { echo a; }; f); f", 127, "a\n", "1");
    Kit.check("f() { :; } < no; f; echo $?; f() { :; }; f 1 2 3; echo $#", 0, "1\n0\n", "2");
    StringBuilder many = new StringBuilder();
    StringBuilder told = new StringBuilder();
    for (int i = 0; i < 30; i++) {
      many.append("f" + i + "() { echo " + i + "; }; ");
      told.append(i + "\n");
    }
    Kit.check(many + "i=0; while test $i != 30; do f$i; i=$((i+1)); done", told.toString());
  }

  private static void copies() {
    Kit.check("x=1; set a; (x=2; y=3; set b c; set -u; f() { :; }; unset x); echo $x [$y] $1 $#; f", 127,
        "1 [] a 1\n", "1");
    Kit.check("(exit 3); echo $?; (exit 3; echo a) || echo b", "3\nb\n");
    Kit.check("(echo a > f); cat f", "a\n");
    Kit.check("{ x=2; exit 3; echo a; }; echo b", 3, "", "");
    Kit.check("x=1; (echo $x; (x=2; echo $x); echo $x)", "1\n2\n1\n");
    Kit.check("false; (echo $?); true; (false); echo $?", "1\n1\n");
    Kit.check("> a; set -f; (echo *); echo $(echo *); echo b | echo *; set +f; (echo *)", "*\n*\n*\na\n");
    Kit.check("set -u; (echo $no; echo b); echo $(echo $no; echo b) $?", 0, "1\n", "55");
    // What one COPY leaves is not in the next one at its depth.
    Kit.check("set a; (set -f; set b c; x=1; f() { :; }; false); : > q; (echo $# $x * $?; f)", 127, "1 q 0\n", "1");
    Kit.check("x=1; f() { echo f; }; (unset x f; y=2); (echo $x $y; f; (x=3; y=4); echo $x $y); f", "1\nf\n1\nf\n");
    Kit.fresh().run("set -u; set -f; set a b; x=1; f() { :; }; false", 1, "", "")
        .run("> a; echo * $x $# $? $y; f", 127, "a 0 0\n", "1");
    Kit.check("(set -f); : > a; echo *; (set -u; echo $no); echo $? $no .", 0, "a\n1 .\n", "5");
    Kit.check("f() { echo 1; }; (unset f; f); f", 0, "1\n", "1");
  }

  private static void errors() {
    String[][] rows = {{"${x?}", "3"}, {"${}", "4"}, {"$((1/0))", "6"}, {"$((a b))", "6"}};
    for (String[] row : rows) {
      Kit.check("echo a; echo " + row[0] + "; echo b", 1, "a\n", row[1]);
      Kit.check("echo a; (echo " + row[0] + "; echo b); echo $?", 0, "a\n1\n", row[1]);
      Kit.check("echo $(echo a; echo " + row[0] + "; echo b) $?", 0, "a 0\n", row[1]);
      Kit.check("y=" + row[0] + "; echo b", 1, "", row[1]);
      Kit.check("echo a > " + row[0] + "; echo b", 1, "", row[1]);
      Kit.check("for i in " + row[0] + "; do :; done; echo b", 1, "", row[1]);
      Kit.check("case " + row[0] + " in a) ;; esac; echo b", 1, "", row[1]);
      Kit.check("{ :; } > " + row[0] + "; echo b", 1, "", row[1]);
      Kit.check("cat << E; echo b\n" + row[0] + "\nE\n", 1, "", row[1]);
      Kit.check("f() { : " + row[0] + "; }; f; echo b", 1, "", row[1]);
      Kit.check("eval ': " + row[0] + "'; echo b", 1, "", row[1]);
      Kit.check("if : " + row[0] + "; then :; fi; echo b", 1, "", row[1]);
      Kit.check("echo a | { cat; : " + row[0] + "; } | cat; echo b", 0, "a\nb\n", row[1]);
      Kit.check("y=1; y=2 z=" + row[0] + " echo; echo b", 1, "", row[1]);
    }
    // Wrong scripts of eval and $( ) end the run, or the COPY.
    Kit.check("echo a; eval 'echo b\n)'; echo c", 2, "a\nb\n", "7");
    Kit.check("(eval 'fi'); echo $?", 0, "2\n", "7");
    Kit.check("x=$(echo a\n); echo $?", "0\n");
    Kit.check("x=$(fi); echo $?", 0, "2\n", "7");
  }
}
