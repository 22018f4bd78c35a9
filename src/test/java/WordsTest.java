/** How WORDS are EXPANDED. */
public final class WordsTest {
  public static void main(String[] args) {
    quoting();
    values();
    operators();
    cuts();
    forms();
    parameters();
    fields();
    names();
    namesOfWholeWords();
    patterns();
    expressions();
    textsOfExpressions();
    textsInOneAnother();
    commands();
    oneText();
    Kit.finish();
  }

  private static void quoting() {
    Kit.check("echo 'a  b' \"c  d\" e\\ \\ f \\a\\$x", "a  b c  d e  f a$x\n");
    Kit.check("x=1; echo '$x' \"$x\" \\$x \"\\$x\" \"\\a\\'\\\\\\\"\\`\"", "$x 1 $x $x \\a\\'\\\"\\`\n");
    Kit.check("echo \"a\\\nb\" a\\\nb 'a\\\nb'", "ab ab a\\\nb\n");
    Kit.check("echo \"$\" $ a$ $. \"$'a'\" $'a' $\"a\"", "$ $ a$ $. $'a' $a $a\n");
    Kit.check("echo '' \"\" ''\"\" a''", "   a\n");
  }

  private static void values() {
    Kit.check("x=a; xy=b; echo $x $xy ${x}y $x-y $x.$xy $_ .", "a b ay a-y a.b .\n");
    Kit.check("set a b c d e f g h i j k; echo $1 $9 $10 ${10} ${11} ${12}. ${010}",
        "a i a0 j k . j\n");
    Kit.check("echo $0 ${0}. $$ $! $-", "$0 . $$ $! $-\n");
    Kit.check("set a b; shift; echo ${0}. ${00}. $1 ${1} ${01} ${001}", ". . b b b b\n");
    Kit.check("A=1; Z=2; a=3; z=4; _=5; a0=6; a9=7; aZ=8; Aa_=9; echo $A$Z$a$z$_$a0$a9$aZ$Aa_", "123456789\n");
    Kit.check("a=1; echo $a@ $a[ $a` $a{ $a/ $a: $@a $[ $` $/ $: $\u00e9 $a\u00e9", "1@ 1[ 1` 1{ 1/ 1: a $[ $` $/ $: $\u00e9 1\u00e9\n");
    Kit.check("@=1; [=1; `=1; {a=1; /=1; a/=1; a:=1; a@=1; a\u00e9=1; a-=1", 127, "", "1111111111");
    Kit.check("set a b; false; echo $# ${#} $? ${?}", "2 2 1 1\n");
    Kit.check("f() { return 7; }; f; echo $?$?", "77\n");
    Kit.check("false; x=$(true)$?; echo $x $?", "1 0\n");
    Kit.check("echo $(false)$? $?", "0 0\n");
    Kit.check("false; echo ${?#$#} ${?#$?} ${?%$((1))}. ${?##${#x}}", "1 . 1\n");
    Kit.check("case aab in aa*ab) echo a;; a*ab) echo b;; esac; case abab in *ab*ab) echo c;; esac", "b\nc\n");
    Kit.check("case abcab in *ab) echo a;; esac; case abcabd in *ab|ab*ab|*b) echo b;; a*c*d*) echo c;; esac", "a\nc\n");
    Kit.check("case aaa in *a*a*a*a*) echo a;; *a*a*a*) echo b;; esac; case '' in **) echo c;; esac", "b\nc\n");
  }

  private static void operators() {
    String vars = "s=v; e=; ";
    Kit.check(vars + "echo ${s:-w} ${e:-w} ${u:-w} ${s-w} [${e-w}] ${u-w}", "v w w v [] w\n");
    Kit.check(vars + "echo ${s:+w} [${e:+w}] [${u:+w}] ${s+w} ${e+w} [${u+w}]", "w [] [] w w []\n");
    Kit.check(vars + "echo ${s:=w} ${e:=w} ${u:=w} $s $e $u", "v w w v w w\n");
    Kit.check(vars + "echo ${s=w} [${e=w}] ${u=w} $s [$e] $u", "v [] w v [] w\n");
    Kit.check(vars + "echo ${s:?w} ${s?w} [${e?w}]", "v v []\n");
    Kit.check(vars + "echo ${e:?w}; echo a", 1, "", "3");
    Kit.check(vars + "echo ${u:?w}; echo a", 1, "", "3");
    Kit.check(vars + "echo ${u?w}; echo a", 1, "", "3");
    Kit.check("echo ${1-w} ${1:-w} ${1+w}. ${#-}", 1, "", "4");
    Kit.check("set a ''; echo ${1-w} ${2:-w} [${2-w}] ${2+w} ${3:-w} ${?-w} ${?:+w}", "a w [] w w 0 w\n");
    Kit.check("echo ${1=w}", 1, "", "4");
    Kit.check("set ''; echo ${1:=w}", 1, "", "4");
    Kit.check("set a; echo ${1=w} ${1:=w} ${?:=w}", "a a 0\n");
    // A " " or ' ' in the WORD makes a field where it stands, even without a byte.
    String[][] counts = {{"${y-a \"\"}", "2"}, {"${y-'' a}", "2"}, {"${y-a \"\" b}", "3"}, {"${y-\"\"$z}", "1"},
        {"${y-${z-''}}", "1"}, {"${y-${z-a ''} b}", "3"}, {"${y- }", "0"}, {"${y-'' }", "1"}, {"${y- \"\"}x", "1"},
        {"${y-a }''", "2"}, {"${y:=\"\"}", "1"}, {"${y-\"a b\" c}", "2"}, {"x${y-\"\" \"\"}x", "2"}, {"\"${y-'' ''}\"", "1"},
        {"${y-\"\" '*'}", "2"}};
    for (String[] row : counts) {
      Kit.check("set -- " + row[0] + "; echo $#", row[1] + "\n");
    }
    // The WORD is expanded where it is wanted, not else.
    Kit.check("x=1; echo ${x:-${y:=2}} [$y] ${x:+${y:=3}} $y ${x?${z:=4}} [$z]", "1 [] 3 3 1 []\n");
    Kit.check("echo ${x:-$(echo a b)} ${x:-$((1+1))} ${x-${y-${z-c}}}", "a b 2 c\n");
    Kit.check("echo ${x-}. ${x:-}. ${x+}.", ". . .\n");
    Kit.check("x=; echo [${x:-}]", "[]\n");
    Kit.check("x=abc; y=; echo ${#x} ${#y} ${#z} ${#1} ${#?}", "3 0 0 0 1\n");
    Kit.check("set abcd; echo ${#1} \"${#1}\"", "4 4\n");
    Kit.check("echo ${x:=a}${x:=b}$x", "aaa\n");
    Kit.check("(echo ${x:=a}); echo [$x]", "a\n[]\n");
    // What one word has left is not in the next one.
    Kit.check("x=''; echo $($none echo a); x=\"\"; set -- ${y-}; echo $#", "a\n0\n");
    Kit.check("x=''; set -- ${y-$z} $(echo); echo $#; case '' in '') set -- ${y+a}${y-};; esac; echo $#", "0\n0\n");
  }

  private static void cuts() {
    Kit.check("x=a.b.c; echo ${x#*.} ${x##*.} ${x%.*} ${x%%.*}", "b.c c a.b a\n");
    Kit.check("x=aaa; echo ${x#a} ${x##a} ${x#a*} [${x##a*}] ${x%a} ${x%a*} [${x%%a*}]",
        "aa aa aa [] aa aa []\n");
    Kit.check("x=abc; echo ${x#b} ${x%b} ${x#} ${x%%} ${x#abcd} [${x#abc}] [${x%abc}]",
        "abc abc abc abc abc [] []\n");
    Kit.check("x=abc; echo ${x#?} ${x%?} ${x#[ab]} ${x%[!a]} ${x#[!a]}", "bc ab bc ab abc\n");
    Kit.check("x=abc; echo ${x#*} ${x%*} ${x#**} ${x%**} [${x##*}] [${x%%*}] [${x##**}]", "abc abc abc abc [] [] []\n");
    Kit.check("x=aab; echo ${x#*a} ${x##*a} ${x%a*} [${x%%a*}] ${x%b*} ${x#b*} ${x##a*a}", "ab b a [] aa aab b\n");
    Kit.check("echo ${x#a}. ${x%%*}. ${x##?}.; x=; echo ${x#?}. ${x%*}.", ". . .\n. .\n");
    Kit.check("x='*b*'; echo ${x#\"*\"} ${x#\\*} ${x%'*'} ${x##*}.", "b* b* *b .\n");
    Kit.check("x=axb; p='a*'; echo \"${x#$p}\" ${x##$p}. ${x##\"$p\"}", "axb . axb\n");
    Kit.check("set abc; echo ${1#a} ${1%c} ${2#a}.", "bc ab .\n");
    // Within " " what is within is QUOTED, the WORD of a pattern too.
    Kit.check("x=a.b; echo \"${x#*.}\" \"${x#a.}\"", "a.b b\n");
    Kit.check("x='a#b'; echo ${x#a#} ${x###}", "b a#b\n");
    Kit.check("x=100%; echo ${x%%%} ${x%\\%}", "100 100\n");
    Kit.check("x=\u00e9a; echo ${x#?}", "a\n");
  }

  private static void forms() {
    for (String first : new String[] {"+", "-", "%", ":"}) {
      Kit.check(first + "\necho ${1234}", 1, "", first.equals(":") ? "4" : "14");
      Kit.check(first + "\necho ${}", 1, "", first.equals(":") ? "4" : "14");
    }
    String[] bad = {"${}", "${ x}", "${x y}", "${x:}", "${x:y}", "${-}", "${!x}", "${x!}", "${1234}",
        "${1x}", "${#*}", "${#@}", "${##}", "${#x-y}", "${#x y}", "${@-x}", "${*:-x}", "${@#x}", "${x:#y}",
        "${x.}", "${$}", "${'x'}", "${x[1]}", "${#:-x}", "${}}"};
    for (String form : bad) {
      Kit.check("echo a; echo " + form + "; echo b", 1, "a\n", "4");
      Kit.check("echo a; echo \"" + form + "\"; echo b", 1, "a\n", "4");
    }
    // It is an ERROR only when it is expanded.
    Kit.check("false && echo ${}; echo ${x+${}} a", "a\n");
    Kit.check("(echo ${}); echo $?; echo a$(echo b; : ${}; echo c) $?", 0, "1\nab 0\n", "44");
    // Under u.
    Kit.check("set -u; echo ${x-a} ${x:-a} ${x+b}. ${x:=c} $x", "a a . c c\n");
    Kit.check("set -u; x=; echo [$x] [${x}] ${#x} $* $@ $# $? \"$@\"", "[] [] 0 0 0\n");
    String[] unset = {"$x", "${x}", "${#x}", "${x#a}", "${x##a}", "${x%a}", "${x%%a}", "$1", "${1}",
        "${10}", "${1#a}", "${#1}", "${0}"};
    for (String form : unset) {
      Kit.check("set -u; echo a; echo " + form + "; echo b", 1, "a\n", "5");
      Kit.check("set -u +u; echo a" + form.replace("${#x}", "").replace("${#1}", ""), "a\n");
    }
    Kit.check("set -u; echo $((x + 1))", "1\n");
    Kit.check("set -u; echo ${x?}", 1, "", "3");
  }

  private static void parameters() {
    String set = "set 'a b' '' c; ";
    String show = "; do echo \"<$i>\"; done";
    Kit.check(set + "for i in \"$@\"" + show, "<a b>\n<>\n<c>\n");
    Kit.check(set + "for i in \"${@}\"" + show, "<a b>\n<>\n<c>\n");
    Kit.check(set + "for i in x\"$@\"y" + show, "<xa b>\n<>\n<cy>\n");
    Kit.check(set + "for i in \"x$@y\"" + show, "<xa b>\n<>\n<cy>\n");
    Kit.check(set + "for i in \"$@$@\"" + show, "<a b>\n<>\n<ca b>\n<>\n<c>\n");
    Kit.check(set + "for i in $@" + show, "<a>\n<b>\n<c>\n");
    Kit.check(set + "for i in $*" + show, "<a>\n<b>\n<c>\n");
    Kit.check(set + "for i in x$*y" + show, "<xa>\n<b>\n<cy>\n");
    Kit.check(set + "for i in x${@}y" + show, "<xa>\n<b>\n<cy>\n");
    Kit.check(set + "for i in \"$*\"" + show, "<a b  c>\n");
    Kit.check(set + "for i in \"x${*}y\"" + show, "<xa b  cy>\n");
    Kit.check("for i in \"$@\" a" + show, "<a>\n");
    Kit.check("for i in \"${@}\" a" + show, "<a>\n");
    Kit.check("for i in \"$*\"" + show, "<>\n");
    Kit.check("for i in $@ $*" + show, "");
    Kit.check("for i in \"\"\"$@\"" + show, "<>\n");
    Kit.check("for i in \"x$@\" x\"$@\"" + show, "<x>\n<x>\n");
    Kit.check("for i in \"$@$@\"" + show, "<>\n");
    Kit.check("set ''; for i in \"$@\"" + show, "<>\n");
    Kit.check("set ''; for i in $@" + show, "");
    Kit.check(set + "x=$@; y=\"$@\"; z=$*; echo \"$x,$y,$z\"", "a b  c,a b  c,a b  c\n");
    Kit.check(set + "for i in ${x-$@} \"${x-$@}\"" + show, "<a>\n<b>\n<c>\n<a b  c>\n");
    Kit.check(set + "for i in ${x-\"$@\"} ${x-\"$*\"}" + show, "<a b  c>\n<a b  c>\n");
    Kit.check("for i in ${x-\"$@\"} ${x-$@} ${x-\"$*\"}" + show, "<>\n<>\n");
    Kit.check("set '*'; : > f; echo $@ \"$@\" $* \"$*\"", "f * f *\n");
    // Those that a shift has taken are gone.
    Kit.check("set a b c; shift; for i in \"$@\"" + show + "; for i in $@" + show + "; for i" + show, Kit.times("<b>\n<c>\n", 3));
    Kit.check("set a b c; shift; x=$*; y=$@; echo \"$*\" ${#x} \"$y\" $#", "b c 3 b c 2\n");
    Kit.check("set a b; shift; for i in x y" + show + "; shift; for i" + show + "; echo $# \"$*\".", "<x>\n<y>\n0 .\n");
  }

  private static void fields() {
    String show = "; do echo \"<$i>\"; done";
    Kit.check("x=' a  b '; for i in $x" + show, "<a>\n<b>\n");
    Kit.check("x=' a  b '; for i in c${x}d" + show, "<c>\n<a>\n<b>\n<d>\n");
    // := as :- : what is QUOTED in the WORD stays so there; the variable's value is a value as any other.
    Kit.check("for i in ${x:=' a b'} $x ${y=c\\ d\"*\"} $y" + show, "< a b>\n<a>\n<b>\n<c d*>\n<c>\n<d*>\n");
    Kit.check("for i in ${x:= a b} $x \"${y=' c'}\" $y" + show, "<a>\n<b>\n<a>\n<b>\n<' c'>\n<'>\n<c'>\n");
    Kit.check("x=' a  b '; for i in \"$x\"" + show, "< a  b >\n");
    Kit.check("x='a\n\tb'; for i in $x" + show, "<a>\n<b>\n");
    Kit.check("x=; for i in $x $y \"$x\" '' $x''" + show, "<>\n<>\n<>\n");
    Kit.check("x=' '; for i in $x ${x}a ''$x" + show, "<a>\n<>\n");
    Kit.check("x='a '; for i in $x'' $x\"b\"" + show, "<a>\n<>\n<a>\n<b>\n");
    Kit.check("x=\"'a b'\"; for i in $x" + show, "<'a>\n<b'>\n");
    Kit.check("for i in ${x-a b} \"${x-a b}\" ${x-\"a b\"} ${x-'a b'} ${x-a\\ b}" + show,
        "<a>\n<b>\n<a b>\n<a b>\n<a b>\n<a b>\n");
    Kit.check("for i in $(echo a b; echo c) \"$(echo a b; echo c)\"" + show, "<a>\n<b>\n<c>\n<a b\nc>\n");
    Kit.check("x=a; for i in b c$x' d'" + show, "<b>\n<ca d>\n");
    Kit.check("for i in a\\ b 'c d'\"e f\"" + show, "<a b>\n<c de f>\n");
    Kit.check("x=echo; $x a; y='echo b c'; $y; z=; $z echo d", "a\nb c\nd\n");
    Kit.check("for i in ${x-\"\"} ${x-''}${x-} \"${x-}\"" + show, "<>\n<>\n<>\n");
    Kit.check("$x", "");
    Kit.check("''", 127, "", "1");
    Kit.check("x='a\rb'; for i in $x" + show, "<a\rb>\n");
    // However long they are.
    String many = Kit.times("a ", 60);
    Kit.check("for i in ${x-\"" + many + "\"} \"${x-" + many + "}\"" + show, "<" + many + ">\n<" + many + ">\n");
    Kit.check("for i in ${x-'" + many + "'b c}" + show, "<" + many + "b>\n<c>\n");
    Kit.check(": > " + Kit.times("a", 70) + "; echo " + Kit.times("a", 70) + "'*' '" + Kit.times("a", 35) + "*'"
        + Kit.times("a", 34) + " " + Kit.times("'a'", 69) + "?", Kit.times("a", 70) + "* " + Kit.times("a", 35) + "*"
        + Kit.times("a", 34) + " " + Kit.times("a", 70) + "\n");
  }

  private static void names() {
    Kit.check(": > b; : > ab; : > a; echo *", "a ab b\n");
    Kit.check(": > b; : > ab; : > a; echo a* ?b \"*\" '*' \\* [b] x* c[a", "a ab ab * * * b x* c[a\n");
    Kit.check(": > b; x='*'; echo $x \"$x\" ${x}c $(echo '*') \"$(echo '*')\"", "b * *c b *\n");
    Kit.check(": > b; set -f; echo * ?; set +f; echo *", "* ?\nb\n");
    Kit.check(": > '*'; : > 'a b'; for i in *; do echo \"<$i>\"; done", "<*>\n<a b>\n");
    Kit.check(": > .a; : > -; echo * .*", "- .a .a\n");
    Kit.check(": > a; echo ''* \"\"? '' [a]'' ''\\* \"\"'*'", "a a  a * *\n");
    Kit.check(": > a; x=*; echo \"$x\" $x; echo > *; cat '*'", "* a\n\n");
    Kit.check(": > a; case * in a) echo b;; '*') echo c;; esac", "c\n");
    Kit.check("for i in *; do echo $i; done", "*\n");
    Kit.check(": > \u00e9; : > z; echo *", "z \u00e9\n");
    Kit.check(": > a; echo ${x-*} \"${x-*}\" ${x-\"*\"} $((2*3))", "a * * 6\n");
    Kit.check(": > echo; * a", "a\n");
    Kit.check("echo a > $(echo b c); cat 'b c'", "a\n");
  }

  /** The names stand in the place of a PATTERN when the whole WORD has been expanded, and told apart. */
  private static void namesOfWholeWords() {
    Kit.check("p='* b'; echo $p$(echo > zz)", "zz b\n");
    Kit.check("p='* b'; echo $p$(echo > zz)c $(echo > d) $p", "zz bc d zz b\n");
    Kit.check("echo * $(echo > zz) *", "* zz\n");
    Kit.check("p='* b'; echo $p $(echo > zz) \"$p\"$(echo > a)", "* b * b\n");
    Kit.check("set '*' b; echo $@$(echo > zz)", "zz b\n");
    Kit.check("set '*' b; echo $*$(echo > zz) \"$@\"$(echo > a)", "zz b * b\n");
    Kit.check("for i in ${x-* b}$(echo > zz); do echo $i; done", "zz\nb\n");
    Kit.check("p='* ?? *'; > a; set -- $p$(> bb); echo $# $*", "5 a bb bb a bb\n");
    Kit.check("> ab; p=' a* '; set -- $p$(> ac)'*'$p\\*\"*\"; echo $# \"$*\"", "6 ab ac * ab ac **\n");
    Kit.check("p='a* b'; echo $p$(> ab; echo $p$(> ac))", "ab ac bab ac b\n");
    Kit.check("> a; p='* '; echo $p${x:-$(> b; echo $p)}", "a b a b\n");
    Kit.check("p='[a [b] *'; set -- $p$(> b)\"]\"; echo $# $*", "3 [a b *]\n");
    Kit.check("p='[! ] [b'; set -- $p$(> b)]; echo $# $*", "3 [! ] b\n");
    Kit.check("set -f; p='* b'; echo $p$(set +f; echo > zz)", "* b\n");
    Kit.check("p='* b'; x=$p$(echo > zz); echo \"$x\"; case '* b' in \"$p\"$(> y)) echo $p;; esac", "* b\ny zz b\n");
    // Fields that stand behind one another have nothing in common.
    String long1 = Kit.times("a", 70);
    Kit.check("p='" + long1 + " * " + long1 + "'; > " + long1 + "; echo ${p}" + long1 + " $p" + "'*'", long1 + " " + long1 + " " + long1
        + long1 + " " + long1 + " " + long1 + " " + long1 + "*\n");
    Kit.check("x='" + Kit.times("a bc ", 40) + "'; set -- $x''; echo $#; shift 79; echo $1.$2.; set -- \"$x\"$x\"$x\"; echo $# ${#1} ${#81}",
        "81\nbc..\n81 201 200\n");
    Kit.check("set -- ${x-1 2 3 4 5 6 7 8 9 10 11 12 13 14 15 16 17 18 19 20}; echo $#; echo $*",
        "20\n1 2 3 4 5 6 7 8 9 10 11 12 13 14 15 16 17 18 19 20\n");
    Kit.check("set '' '' ''; for i in \"$@\"\"$@\"$@ \"x$@\"; do echo \"<$i>\"; done", Kit.times("<>\n", 5) + "<x>\n<>\n<>\n");
  }

  private static void patterns() {
    String[][] rows = {
      {"abc", "abc"}, {"abc", "*"}, {"", "*"}, {"", "''"}, {"abc", "a*c"}, {"abc", "???"}, {"abc", "*c*"},
      {"abc", "[a-c]b[!a]"}, {"]", "[]]"}, {"a", "[!]]"}, {"-", "[a-]"}, {"-", "[-a]"}, {"b", "[a-c]"},
      {"[", "["}, {"[a", "[a"}, {"[]", "[]"}, {"*", "'*'"}, {"*", "\\*"}, {"a", "[\"a\"]"}, {"]", "[a\\]]"},
      {"-", "[a\\-c]"}, {"!", "[\\!a]"}, {"!", "[a!]"}, {"a]", "[a]]"}, {"b", "[]-c]"}, {"[", "[[]"},
      {"aXbXc", "a*b*c"}, {"aab", "*ab"}, {"a", "[[:a]"}, {"-", "[--0]"}, {".", "[--0]"}, {"[!", "[!"},
      {"\u00ff", "?"}, {"\u00ff", "[\u00e0-\u00ff]"}, {"abab", "*ab"}, {"*", "[*]"}, {"[!]", "[!]"},
    };
    for (String[] row : rows) {
      Kit.check("x='" + row[0] + "'; case $x in " + row[1] + ") echo y;; *) echo n;; esac", "y\n");
    }
    String[][] not = {
      {"abc", "ab"}, {"abc", "b*"}, {"", "?"}, {"abc", "'*'"}, {"b", "[!a-c]"}, {"]", "[!]]"},
      {"b", "[a\\-c]"}, {"b", "[c-a]"}, {"c", "[a-]"}, {"a", "[\\!a"}, {"ab", "[ab]"}, {"", "[a]"}, {"]", "[a]"},
      {"b", "[\"a-c\"]"}, {"abc", "a\\*"}, {"b", "[\\!a"}, {"a", "[!a]"},
    };
    for (String[] row : not) {
      Kit.check("x='" + row[0] + "'; case $x in " + row[1] + ") echo y;; *) echo n;; esac", "n\n");
    }
    Kit.check("p='a*'; case abc in $p) echo y;; esac; case abc in \"$p\") echo z;; esac", "y\n");
    Kit.check("case 'a*' in \"a*\") echo y;; esac", "y\n");
    // One behind the other: what one has left is not in the next one.
    Kit.check("case a in [a]x) echo 1;; [b]) echo 2;; [a]) echo 3;; esac", "3\n");
    Kit.check("case \u00e9 in [\u00e9]x) echo 1;; [b]) echo 2;; [!a]) echo 3;; esac", "3\n");
    Kit.check("case \u00e91 in [\u00e9][2]) echo 1;; [1][\u00e9]) echo 2;; [\u00e9][1]) echo 3;; esac", "3\n");
    Kit.check("case a\u00e9@1 in [!\u00e9][!a][!1][!@]) echo y;; esac", "y\n");
    Kit.check("set" + Kit.times(" a", 90) + "; for i; do case $i in [b]|[c]|[d]|[e]|[f]|[g]|[h]|[i]|[j]|[!a]) echo 1;; "
        + "[a]) ;; *) echo 2;; esac; done; echo b", "b\n");
    String most = "x=" + Kit.times("?", 1000) + "; x=$x$x; ";
    Kit.check(most + "case $x in $x) echo y;; esac; echo [${x#$x}] [${x##$x}] [${x%$x}] [${x%%$x}]", "y\n[] [] [] []\n");
    Kit.check("x=" + Kit.times("*", 1000) + "; x=$x$x; case a in $x) echo y;; esac; case $x in \"$x\") echo z;; esac", "y\nz\n");
    Kit.check("y=" + Kit.times("[a]", 333) + "; y=$y$y; case aa in $y) echo y;; [!b][!c]) echo z;; esac", "z\n");
    String many = Kit.times("a", 600);
    Kit.check("case " + many + " in " + Kit.times("*a", 300) + "b) echo y;; *) echo n;; esac", "n\n");
  }

  private static void expressions() {
    String[][] rows = {
      {"1", "1"}, {" 1+2*3 ", "7"}, {"(1+2)*3", "9"}, {"7/2", "3"}, {"-7/2", "-3"}, {"7%3", "1"}, {"-7%3", "-1"},
      {"10-2-3", "5"}, {"100/10/2", "5"}, {"2<3", "1"}, {"3<=2", "0"}, {"3>2", "1"}, {"2>=3", "0"},
      {"1<2==1", "1"}, {"1==1!=0", "1"}, {"0||2&&3", "1"}, {"1&&0||0", "0"}, {"1||0&&0", "1"}, {"!0", "1"},
      {"!5", "0"}, {"!!5", "1"}, {"- -5", "5"}, {"--5", "5"}, {"-!0", "-1"}, {"1- -1", "2"}, {"!1+1", "1"},
      {"007", "7"}, {"999999999*999999999", "" + 999999999 * 999999999}, {"1\n+\t2", "3"}, {"3-1*2", "1"},
      {"2147483*1000+647+1", "-2147483648"},
      {"(-2147483*1000-648)/-1", "-2147483648"}, {"(-2147483*1000-648)%-1", "0"},
      {"((((((((((1))))))))))", "1"}, {"x", "0"}, {"y", "12"}, {"-z", "3"}, {"$y+y", "24"}, {"e", "0"},
      {"${y}0", "120"}, {"$(echo 4)*2", "8"}, {"\\\n5", "5"}, {"1!=2", "1"}, {"5>4>3", "0"}, {"$z-1", "-4"},
      {"(1)+(2)", "3"}, {"5-2+1", "4"}, {"2<2", "0"}, {"2>2", "0"}, {"2<=2", "1"}, {"2>=2", "1"}, {"8/2*3", "12"},
      {"1<2<=1>=1", "1"}, {"2!=2==0", "1"}, {"5/1", "5"}, {"5%1", "0"}, {"1&&1", "1"}, {"1&&2", "1"}, {"1||1", "1"},
      {"0||0", "0"}, {"0&&0", "0"}, {"0/5", "0"}, {"999999999", "999999999"}, {"-999999999", "-999999999"}, {"000000000", "0"},
      {"(0||1)*0", "0"}, {"(1||0)+1", "2"}, {"(1&&0)||1", "1"}, {"!(0||1)", "0"}, {"2*(1==1)", "2"}, {"(1<2)+(2>1)", "2"},
      {"((1)+(2))*((3))", "9"}, {"- - -1", "-1"}, {"!1-1", "-1"}, {"!-1", "0"}, {"-2*-3", "6"}, {"2- -3*-1", "-1"},
    };
    for (String[] row : rows) {
      Kit.check("y=12; z=-3; e=; echo $((" + row[0] + "))", row[1] + "\n");
    }
    String[] bad = {"", " ", "1+", "+1", "*1", "1 2", "()", "1/0", "1%0", "1/(2-2)", "1=1", "x=1", "1&1",
      "1|1", "a b", "1a", "1000000000", "b", "c", "~1", "1?2:3", "1,2", "'1'", "\"1\"", "0x10", "1<<2", "d", "1//2",
      "(((((((((((1)))))))))))", "0&&1/0", "1=01", "1!01", "1&01", "1|01", "1= =1", "1! =1", "1& &1", "1| |1", "1< =1", "1> =1", "1 !2", "p", "!", "1==", "f"};
    for (String text : bad) {
      Kit.check("b=1a; c=' 1'; d=--1; p=+1; f=1234567890; echo a; echo $((" + text + ")); echo b", 1, "a\n", "6");
    }
    Kit.check("echo $((1+2)) $((3)) $((!0)) $((4))", "3 3 1 4\n");
    // An empty value brings nothing: what is left must be an EXPRESSION, and no + may stand ahead.
    for (String text : new String[] {"$none", "${none}", "$none+1", "1+$none", "$none*2", "($none)", "$e", "$(:)", "\"$none\""}) {
      Kit.check("e=; echo $((" + text + "))", 1, "", "6");
    }
    Kit.check("e=; echo $(($none 1 $e)) $((none+1)) $(($e-1)) $((-$none-1)) $((e*2))", "1 1 -1 1 0\n");
    // A ( or ) that a value brings.
    for (String text : new String[] {"(1", "1)", "((1)", "(1))", ")", "(", ")1(", "1)+(1"}) {
      Kit.check("p='" + text + "'; echo $(($p))", 1, "", "6");
    }
    // What a bad one has left is not in the next one.
    Kit.check("(echo $((1 + (2 +)))); (echo $(((3 4)))); echo $((3)) $((4*(5)))", 0, "3 20\n", "66");
    for (String left : new String[] {"1+", "1*-", "((1)", "1/0", "!", "1 1", "(1", "1)", "2||", "(((("}) {
      Kit.check("p='" + left + "'; (echo $(($p))); echo $((3)) $((4*(5)-6))", 0, "3 14\n", "6");
    }
    rows();
    // It is one only if it begins with $(( and ends with )) .
    Kit.check("echo $((echo a) )", "a\n");
    Kit.check("echo $( (echo a))", "a\n");
    Kit.check("echo $((echo a);(echo b))", 1, "", "6");
    Kit.check("echo \"$((1 + 1))\"$((2))", "22\n");
    Kit.check("echo $(($((1 + 1)) * 2))", "4\n");
    Kit.check("echo $(( '${x' ))", 1, "", "4");
    Kit.check("set 4; echo $(($1 * $# + $?))", "4\n");
  }

  /** What is within $(( )) is expanded like a TEXT of <<, whose groups are counted anew. */
  private static void textsOfExpressions() {
    for (int n = 1; n < 9; n++) {
      String groups = Kit.times("${y-", n - 1) + "5" + Kit.times("}", n - 1);
      String text = "${x#'" + groups + "'}";
      boolean fine = n <= 6;
      Kit.check("x=5; cat << E\n" + text + "\nE\n", fine ? 0 : 1, fine ? "5\n" : "", fine ? "" : "4");
      String[] rows = {"$((" + text + "))", "\"$((" + text + "))\"", "${z-$((" + text + "))}", "\"${z-\"$((" + text + "))\"}\"",
          "$(($((" + text + "))))", "$((${z-$((" + text + "))}))", "$(echo $((" + text + ")))", "${z:=$((" + text + "))}",
          "${z-${z-${z-${z-$((" + text + "))}}}}", "$((10+" + text + "*(2-1)-10))"};
      for (String row : rows) {
        Kit.check("x=5; echo " + row, row.startsWith("$(echo") || fine ? 0 : 1, fine ? "5\n" : row.startsWith("$(echo") ? "\n" : "",
            fine ? "" : "4");
      }
      Kit.check("x=5; cat << E\n$((" + text + "))\nE\n", fine ? 0 : 1, fine ? "5\n" : "", fine ? "" : "4");
      // ' is itself in a TEXT, and no EXPRESSION.
      Kit.check("echo $(('" + groups + "'))", 1, "", n <= 7 ? "6" : "4");
    }
    Kit.check("x=5;\0\0\0\0 $((${x#'${x-${x-${x-${x-${x-5}}}}}'}))" + Kit.times("\0", 13), 127, "", "1");
    // Each form of ${ where the TEXT is wanted, and where it is not.
    String six = "${z-${z-${z-${z-${z-5}}}}}";
    Kit.check("x=5; echo $((${x%'" + six + "'})) $((${x##'" + six + "'})) $((${x%%'" + six + "'})) $((${x+5})) $((${x-'" + six
        + "'}))", "5 5 5 5 5\n");
    Kit.check("x=5; echo $((${x?'" + six + "'})) $((${z+'" + six + "'}7)) $((${x:='" + six + "'}))", "5 7 5\n");
    Kit.check("x=\\'5\\'; echo $((${x#'" + six + "'}3)) $((1${x%'" + six + "'})) $((1${x##\\''" + six + "'}))", 1, "", "6");
    Kit.check("x=\\'5\\'; echo $((${x#'" + six + "'}3)) $((1${x%'" + six + "'}))", "3 1\n");
    // What is around an EXPRESSION in a WORD is as it was.
    Kit.check("x='*'; for i in a\"$((1))$x\"'$x'$((2))$x; do echo $i; done", "a1*$x2*\n");
    Kit.check("set 'a b' c; for i in \"$((1))$@$((2))\"$@ ${x-\"$((3)) $((4))\" $((5))}; do echo \"<$i>\"; done",
        "<1a b>\n<c2a>\n<b>\n<c>\n<3 4>\n<5>\n");
    Kit.check("for i in \"a\"$@\"b\" \"$((1))\"$@\"\"; do echo \"<$i>\"; done", "<ab>\n<1>\n");
    Kit.check("for i in \"a\"${@}\"b\" c\"$@\"d\"${@}\"; do echo \"<$i>\"; done", "<ab>\n<cd>\n");
    Kit.check("x=\"a\"$@\"b\"$@\"\"; echo \"$x\"; set c; x=\"a\"$@\"b\"\"$@\"; echo \"$x\"", "ab\nacbc\n");
    // "$@" without a parameter, and what stands behind it.
    for (String all : new String[] {"\"$@\"", "\"${@}\""}) {
      Kit.check("for i in " + all + "$x " + all + "a " + all + all + "bc " + all + "\"\" $x" + all + "d; do echo \"<$i>\"; done",
          "<a>\n<bc>\n<>\n<d>\n");
    }
    // As ONE text.
    Kit.check("set 1 +2; echo $(($@)) $(($*)) $((\"1\"))", 1, "", "6");
    Kit.check("set 1 +2; echo $(($@)) $(($*)) $((${@}))", "3 3 3\n");
    Kit.check("set 1 2; echo $(($@))", 1, "", "6");
    // An ERROR within ends all of it, and nothing of it is left.
    Kit.check("x='a b'; (: \"${y?}\"); for i in $x; do echo \"<$i>\"; done", 0, "<a>\n<b>\n", "3");
    Kit.check("x='a b'; (: ${z-\"${y?}\"}); for i in ${z-$x}; do echo \"<$i>\"; done", 0, "<a>\n<b>\n", "3");
    Kit.check("(echo a${z-b$((1+${x-${y?}}))}c); echo $? $((1+${x-2})) ${z-d}", 0, "1 3 d\n", "3");
    Kit.check("(echo ${z:=$((${z:=7}+${}))}); echo [$z]; (echo ${z:=$((${z:=7}-+))}); echo [$z]; echo ${z:=$((${z:=7}+1))}$z", 0,
        "[]\n[]\n88\n", "46");
  }

  /** As many of them as a script has room for: behind their ' the groups of a TEXT are not those of the one around it. */
  private static void textsInOneAnother() {
    for (int n = 0; n <= 56; n++) {
      Kit.check("echo $((" + Kit.textWith(n, "1") + "))", "1\n");
      Kit.check("echo $((" + Kit.textWith(n, "x") + "))", "0\n");
      Kit.check("echo $((" + Kit.textWith(n, ")") + "))", 2, "", "7");
    }
    Kit.check("echo a; (echo $((" + Kit.textWith(50, "${y?}") + "))); echo b", 0, "a\nb\n", "3");
    Kit.check("echo a; (echo $((" + Kit.textWith(50, "1/0") + "))); echo b", 0, "a\nb\n", "6");
    Kit.check("echo a; (echo $((" + Kit.textWith(50, "${-}") + "))); echo $((" + "1" + "))", 0, "a\n1\n", "4");
    Kit.check("x=1; echo $((" + Kit.textWith(50, "$(echo $((x+1)))") + "))", "2\n");
    Kit.check("cat << E\n$((" + Kit.textWith(50, "7") + "))\nE\n", "7\n");
    Kit.check("f() { echo $((" + Kit.textWith(20, "$(test x$x = x1 && echo 5 || { x=1; f; })") + ")); }; f", "5\n");
    Kit.work("echo $((" + Kit.textWith(0, "1") + "))", 5 + 11 + 5 + 2 + 2 + 5 + 2 + 2);
    Kit.work("echo $((" + Kit.textWith(56, "1") + "))", 5 + 11 + 35 * 56 + 5 + 2 + 2 + 5 + 2 + 2 + 56 * (4 * 1 + 6 + 2));
  }

  /** Each row of operators against each other one, from the left where they are of the same row. */
  private static void rows() {
    String[][] rows = {{"||"}, {"&&"}, {"==", "!="}, {"<", "<=", ">", ">="}, {"+", "-"}, {"*", "/", "%"}};
    int[][] numbers = {{7, 2, 3}, {1, 5, 4}, {0, 1, 2}, {3, 3, 1}, {2, 1, 1}, {0, 1, 1}};
    for (int a = 0; a < rows.length; a++) {
      for (String first : rows[a]) {
        for (int b = 0; b < rows.length; b++) {
          for (String second : rows[b]) {
            for (int[] n : numbers) {
              int due = a >= b ? apply(second, apply(first, n[0], n[1]), n[2]) : apply(first, n[0], apply(second, n[1], n[2]));
              Kit.check("echo $((" + n[0] + first + n[1] + second + n[2] + "))", due + "\n");
            }
          }
        }
      }
    }
  }

  private static int apply(String sign, int a, int b) {
    switch (sign) {
      case "||": return a != 0 || b != 0 ? 1 : 0;
      case "&&": return a != 0 && b != 0 ? 1 : 0;
      case "==": return a == b ? 1 : 0;
      case "!=": return a != b ? 1 : 0;
      case "<": return a < b ? 1 : 0;
      case "<=": return a <= b ? 1 : 0;
      case ">": return a > b ? 1 : 0;
      case ">=": return a >= b ? 1 : 0;
      case "+": return a + b;
      case "-": return a - b;
      case "*": return a * b;
      case "/": return a / b;
      default: return a % b;
    }
  }

  private static void commands() {
    Kit.check("echo a$(echo b)c$(echo)d", "abcd\n");
    Kit.check("x=$(echo a; echo; echo b; echo; echo); echo \"<$x>\"", "<a\n\nb>\n");
    Kit.check("x=1; echo $(x=2; echo $x) $x", "2 1\n");
    Kit.check("echo $(exit 3) $?; x=$(exit 3); echo $?", "0\n3\n");
    Kit.check("x=$(false)$(true); echo $?; x=$(true) y=$(exit 4); echo $?", "0\n4\n");
    Kit.check("$(exit 5); echo $?; > $(echo f; exit 6); echo $?", "5\n6\n");
    Kit.check("x=$(exit 3); y=1; echo $?; x=$(exit 3); > f; echo $?; x=$(exit 3); $none; echo $?", "0\n0\n0\n");
    Kit.check("x=$(exit 3) y=$(x=$(exit 4)); echo $?; x=$(exit 3)$(y=$(exit 4); z=1); echo $?; x=$(exit 3) << E; echo $?\n"
        + "$(exit 5)\nE\n", "4\n0\n3\n");
    Kit.check("$(echo echo a b)", "a b\n");
    Kit.check("echo $(echo $(echo $(echo a)))", "a\n");
    Kit.check("echo $(\n\n# c\necho a\n)", "a\n");
    Kit.check("false; x=$(echo $?); echo $x; false; x=$( ); echo $?", "1\n0\n");
    Kit.check("echo a$(echo b; nosuch; echo c; exit; echo d)", 0, "ab c\n", "1");
    Kit.check("echo a$(echo b; )", "ab\n");
    Kit.check("echo a$(echo b; fi; echo c)d", 0, "ad\n", "7");
    Kit.check("echo a$(echo b\nfi; echo c)d; x=$(fi); echo $?", 0, "abd\n2\n", "77");
    Kit.check("set a b; f() { echo f; }; echo $(echo $1 $#; f; shift; echo $1; f() { echo g; }; f) $1; f",
        "a 2 f b g a\nf\n");
  }

  private static void oneText() {
    Kit.check("x='a  b'; y=$x; echo \"$y\"; z=$x$y; echo \"$z\"", "a  b\na  ba  b\n");
    Kit.check(": > a; x=*; echo \"$x\"", "*\n");
    Kit.check("x=a y=$x$x z=$y; echo $z", "aa\n");
    Kit.check("x=' a '; case $x in ' a ') echo y;; esac", "y\n");
    Kit.check("echo b > 'a  c'; x='a  c'; cat < $x", "b\n");
    Kit.check("x= y=1; echo [$x]", "[]\n");
    Kit.check("x=a\\ b'c d'\"e f\"; echo $x", "a bc de f\n");
    Kit.check("x=~; echo $x", "~\n");
  }
}
