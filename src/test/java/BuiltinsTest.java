/** The BUILT-INS, one by one. */
public final class BuiltinsTest {
  public static void main(String[] args) {
    plain();
    cat();
    test();
    read();
    set();
    shiftAndUnset();
    eval();
    ends();
    Kit.finish();
  }

  private static void plain() {
    Kit.check("false; : a b; echo $?; true a; echo $?; false a; echo $?", "0\n0\n1\n");
    Kit.check("false; echo; echo a  b '' c; echo -n a; echo $?", "\na b  c\n-n a\n0\n");
    Kit.check("echo '\\n' \"\\t\"", "\\n \\t\n");
    Kit.check("nosuch a b; echo $?; . f; [ a = a ]; Echo; 'echo '", 127, "127\n", "11111");
    Kit.check("cd; pwd; printf a; local; export x; trap; ls", 127, "", "1111111");
    Kit.check("\\echo a; 'ec'ho b; x=ec; ${x}ho c", "a\nb\nc\n");
  }

  private static void cat() {
    Kit.fresh().with("a\nb").run("cat; cat; echo; echo $?", "a\nb\n0\n");
    Kit.check("echo a > f; echo b > g; cat f g f; echo $?", "a\nb\na\n0\n");
    Kit.check("echo a > f; cat no f none; echo $?; cat f; echo $?", 0, "a\n1\na\n0\n", "22");
    Kit.fresh().with("in").run("echo a > f; cat f; cat", "a\nin");
    Kit.check("cat ''; echo $?", 0, "1\n", "2");
    Kit.fresh().with("in").run("cat -; echo $?; cat", 0, "1\nin", "2");
  }

  private static void test() {
    String[] yes = {"a", "-n", "!", "''a", "-n a", "-z ''", "! ''", "a = a", "a != b", "'' = ''", "1 -eq 1", "1 -eq 01",
        "-1 -lt 0", "1 -ne 2", "1 -le 1", "1 -ge 1", "2 -gt 1", "! -n ''", "! -z a", "! ! a", "! = !", "-n = -n",
        "-e f", "! -e g", "= = =", "0 -le 1", "-1 -le 1", "1 -ge 0", "1 -gt 0", "0 -ne 1", "-0 -eq 0", "999999999 -gt 0", "! != a", "-z != -n", "'!' = !", "! ! -eq"};
    String[] no = {"1 -gt 2", "0 -ge 1", "1 -le 0", "1 -lt 0", "1 -lt 1", "1 -eq 0", "1 -ne 01", "-1 -eq 1", "", "''", "-n ''", "-z a", "! a", "a = b", "a != a", "1 -eq 2", "0 -lt -1", "1 -ne 1", "2 -le 1",
        "1 -ge 2", "1 -gt 1", "! -n a", "! -z ''", "-e g", "! -e f", "a = 'a '", "! ! ''"};
    String[] bad = {"a -n b", "a ! b", "a -z ''", "a -n ''", "-n ! a", "-z -e f", "a b", "-x a", "a b c", "1 -eq a", "a -lt 1", "'' -eq 0", "1 -eq ''", "1 -eq 1234567890", "a = b c",
        "! a = b", "! a b", "1 -eq +1", "1 == 1", "-n a b", "1 -eq ' 1'", "a -a b", "- -eq 0", "-- -eq 0", "a b c d e",
        "! -x a", "1 -xx 2", "1 '<' 2", "-e f g", "! 1 -eq 1", "1 -eq --1"};
    for (String a : yes) {
      Kit.check(": > f; test " + a, 0, "", "");
    }
    for (String a : no) {
      Kit.check(": > f; test " + a, 1, "", "");
    }
    for (String a : bad) {
      Kit.check(": > f; test " + a, 2, "", "4");
      Kit.check("test " + a + "; echo a", 0, "a\n", "4");
    }
    Kit.check("test $none = a", 2, "", "4");
    Kit.check("test \"$none\" = a", 1, "", "");
  }

  private static void read() {
    Kit.fresh().with(" a  b\tc  \nd\n\n").run(
        "read x y; echo \"<$x,$y>\"; read x y; echo \"<$x,$y> $?\"; read x y; echo \"<$x,$y> $?\"; read x; echo $?",
        "<a,b\tc>\n<d,> 0\n<,> 0\n1\n");
    Kit.fresh().with("  a b  ").run("read x; echo \"<$x> $?\"", "<a b> 1\n");
    Kit.fresh().with("a\nb\n").run("read; echo $?; read x; echo $x; read; echo $?", "0\nb\n1\n");
    Kit.fresh().with("a b c d\n").run("read x y z; echo \"$x,$y,$z\"", "a,b,c d\n");
    Kit.fresh().with("a b\n").run("read x x; echo $x", "b\n");
    Kit.fresh().with("a\\ b \"c\" 'd'\\\ne\n").run("read x y; echo \"$x,$y\"", "a\\,b \"c\" 'd'\\\n");
    Kit.fresh().with("a\nb\n").run("read x 1y; echo $? [$x]; read x; echo $x", 0, "2 []\na\n", "4");
    Kit.fresh().with("a\n").run("read ''; echo $?; read -r x; echo $?; read x; echo $x", 0, "2\n2\na\n", "44");
    Kit.fresh().with("* $x\n").run(": > f; read x; echo $x \"$x\"", "f $x * $x\n");
    Kit.fresh().with("a\r\u0000\u00e9 b\n").run("read x y; echo \"$x\"", "a\r\u0000\u00e9\n");
    Kit.check("echo a b > f; x=1; x=2 read y z < f; echo $x $y $z; x=2 read x < f; echo $x", "1 a b\n1\n");
    Kit.check("read x; echo $? [$x]", "1 []\n");
  }

  private static void set() {
    Kit.check("set a b; echo $# $1 $2; set; echo $#; set --; echo $#; set -- -u -f; echo $1 $2", "2 a b\n2\n0\n-u -f\n");
    Kit.check("set a; set -f; echo $#; set +f b; echo $#$1; set -f --; echo $#", "1\n1b\n0\n");
    Kit.check("set -u -f +u a -f; echo $none $# $1 $2 *", "2 a -f *\n");
    Kit.check("set -x a; echo $1; set -uf; echo $1 $none; set - a; echo $1; set +; echo $1", "-x\n-uf\n-\n+\n");
    Kit.check("set a -- b; echo $# $2; set -- -- a; echo $# $1", "3 --\n2 --\n");
    for (String not : new String[] {"au", "+uf", "-uf", "-", "+", "-U", "+F", "u", "f", "--u", "-u-", "''", "-e", "+-", "---", "' -u'"}) {
      Kit.check("set " + not + " b; echo $# $2 $none", "2 b\n");
      Kit.check("set -u " + not + " b; echo $# $2; echo $none", 1, "2 b\n", "5");
    }
    Kit.check("set -u; set +u; echo $none .; false; set a; echo $?", ".\n0\n");
    Kit.check("set -u; echo $none", 1, "", "5");
    Kit.check(": > f; set -f; echo *; (set +f; echo *); echo *", "*\nf\n*\n");
    Kit.check("set ''; echo $# [$1]", "1 []\n");
  }

  private static void shiftAndUnset() {
    Kit.check("set a b c; shift; echo $# $1; shift 2; echo $#; shift 0; echo $?", "2 b\n0\n0\n");
    Kit.check("set a b; shift 3; echo $? $#; shift x; echo $? $#; shift -1; echo $? $#; shift ''; echo $?", 0,
        "1 2\n1 2\n1 2\n1\n", "4444");
    Kit.check("shift; echo $?; shift 1234567890; echo $?; set a; shift 01 x; echo $#; shift -0; echo $?", 0,
        "1\n1\n0\n0\n", "44");
    Kit.check("x=1; y=2; unset x; echo [$x] $y; unset x z; echo $?; unset; echo $?", "[] 2\n0\n0\n");
    Kit.check("set a b; false; shift; echo $?; false; shift 0; echo $?; false; unset x; echo $?; false; unset; echo $?",
        "0\n0\n0\n0\n");
    Kit.check("unset=1; x=2; unset() { echo f; }; unset x; echo $unset $x", "f\n1 2\n");
    Kit.check("unset=1; x=2; unset x; echo $unset $x.; read=1; read x; echo $read", "1 .\n1\n");
    Kit.check("x=1; y=2; z=3; unset x 1a z; echo $? [$x] $y $z; unset -f y; echo $? $y", 0, "2 [] 2 3\n2 2\n", "44");
    Kit.check("f() { echo a; }; f=1; unset f; echo [$f]; f", 127, "[]\n", "1");
    Kit.check("x=1; set -u; unset x; echo $x", 1, "", "5");
    Kit.check("a=1 b=2 c=3; unset a; echo $b $c; unset c; echo $b; a=4; echo $a$b$c", "2 3\n2\n42\n");
    Kit.check("f() { echo f; }; g() { echo g; }; h() { echo h; }; unset f; g; h; unset h; g", "g\nh\ng\n");
  }

  private static void eval() {
    Kit.check("x='echo a; echo b'; eval $x; eval \"$x\"; eval; echo $?", "a\nb\na\nb\n0\n");
    Kit.check("false; eval; echo $?; false; eval ''; echo $?; false; eval '# a'; echo $?; eval false; echo $?",
        "0\n0\n0\n1\n");
    Kit.check("eval echo 'a;' echo b; eval 'echo a' '' b", "a\nb\na b\n");
    Kit.check("eval 'x=1; set a; f() { echo f; }'; echo $x $1; f", "1 a\nf\n");
    Kit.check("eval 'cat << E\na\nE\necho b'", "a\nb\n");
    Kit.check("eval eval echo '\\$x'; x=1; eval 'echo $x' '$x'; x='$y' y=2; eval echo $x", "\n1 1\n2\n");
    Kit.check("eval 'echo a\nexit 3\necho b'", 3, "a\n", "");
    Kit.check("eval 'echo \\\n'a", "a\n");
    Kit.check("eval 'exit 3' | cat; echo a; eval '(exit 4)'; echo $?", "a\n4\n");
    Kit.check("false; eval 'echo $?'", "1\n");
    Kit.check("eval '\n'; echo $?", "0\n");
    Kit.check("eval \"echo 'a\"; echo b", 2, "", "7");
  }

  private static void ends() {
    Kit.check("exit; echo a", 0, "", "");
    Kit.check("false; exit; echo a", 1, "", "");
    Kit.check("exit 255", 255, "", "");
    Kit.check("exit 007 x", 7, "", "");
    for (String bad : new String[] {"256", "x", "''", "-1", "1234567890", "1x", "+1", "' 1'"}) {
      Kit.check("exit " + bad + "; echo a", 2, "", "4");
      Kit.check("return " + bad + "; echo a", 2, "", "4");
      Kit.check("f() { return " + bad + "; echo a; }; f; echo b", 2, "", "4");
      Kit.check("(exit " + bad + "; echo a); echo $?", 0, "2\n", "4");
      if (!bad.equals("256")) {
        Kit.check("break " + bad + "; echo a", 2, "", "4");
        Kit.check("for i in 1 2; do continue " + bad + "; echo a; done; echo b", 2, "", "4");
      }
    }
    Kit.check("for i in 1 2; do break 1; done; echo $i; for i in 1 2; do continue 1; echo no; done; echo $i", "1\n2\n");
    Kit.check("break 0; echo a", 2, "", "4");
    Kit.check("for i in 1 2; do continue 0; done; echo a", 2, "", "4");
    Kit.check("for i in 1 2; do echo $i; continue 256 x; done; echo $?", "1\n2\n0\n");
    Kit.check("exit -0", 0, "", "");
    Kit.check("f() { return 255; }; f; echo $?", "255\n");
    Kit.check("f() { false; return; }; f; echo $?; f() { return 0 x; }; f; echo $?", "1\n0\n");
    Kit.check("false; return", 1, "", "");
    Kit.check("false; x=$(exit); echo $?; false; (exit); echo $?", "1\n1\n");
    Kit.check("exit $(echo 3)", 3, "", "");
  }
}
