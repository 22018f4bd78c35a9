/**
 * The document from its first sentence to its last: each that names a boundary (too small, too large, empty, full, a
 * wrap-around, a refused call) with the values at both sides of it. The sentences stand as comments.
 */
public final class EdgesTest {
  private static final int[] FAR = {-1, Integer.MIN_VALUE, Integer.MAX_VALUE};
  private static final String FULL = "x=aaaaaaaaaa; x=$x$x$x$x$x; x=$x$x$x$x; x=$x$x$x$x$x; ";

  public static void main(String[] args) {
    newObject();
    feed();
    end();
    input();
    run();
    sizeAndOut();
    diagnostics();
    wrong();
    count();
    filesAndBytes();
    tokens();
    texts();
    grammar();
    values();
    expressions();
    fields();
    patterns();
    simple();
    redirections();
    rows();
    builtins();
    numbers();
    limits();
    Kit.finish();
  }

  // ---- promises 1 to 12

  /** 1: No files; an empty TAPE; OUT empty, no DIAGNOSTICS. */
  private static void newObject() {
    CommandHouse h = new CommandHouse();
    Kit.due("no files", h.count(2) + h.count(3) + h.file(0) + h.byteOf(0, true, 0) + h.byteOf(0, false, 0), -3);
    Kit.due("an empty TAPE", h.count(5), 0);
    Kit.due("OUT empty", h.size() + h.out(0), -1);
    Kit.due("no DIAGNOSTICS", h.count(4) + h.diagnostic(0), -1);
    Kit.due("nothing has been run", h.count(0) + h.count(1) + h.wrong(), -1);
    Kit.due("two objects have nothing in common", Kit.fresh().run("echo a > f; x=1; echo b", "b\n").house() == h, false);
    Kit.due("this one has no file", h.count(2), 0);
    Kit.lay(h, "cat; cat f; echo [$x]");
    Kit.due("nor INPUT", h.run() + Kit.out(h) + Kit.diagnostics(h), "0[]\n2");
  }

  /** 2: the highest of each number first. -1, and nothing is done: they would be more than 2000. */
  private static void feed() {
    CommandHouse h = new CommandHouse();
    Kit.due("feed", h.feed(0x6563686f, 0x20270180, 0xff7f0027, 0x80000000, Integer.MAX_VALUE), 20);
    Kit.due("end", h.end(12), 12);
    Kit.due("run", h.run(), 0);
    Kit.due("each byte as it is", Kit.out(h), "\u0001\u0080\u00ff\u007f\u0000\n");
    Kit.lay(h, "echo abc" + Kit.times(" ", 1971));
    Kit.due("1979 bytes and 20", h.feed(0x23232323, 0x23232323, 0x23232323, 0x23232323, 0x23232323), 1999);
    Kit.due("1999 and 20", h.feed(0x0a0a0a0a, 0x6e6f0a0a, 0, 0, 0), -1);
    Kit.due("nothing is done", h.count(5), 1999);
    Kit.due("run of it", h.run() + Kit.out(h), "0abc\n");
    Kit.lay(h, "echo abc" + Kit.times(" ", 1972));
    Kit.due("1980 and 20", h.feed(0x20202020, 0x20202020, 0x20202020, 0x20202020, 0x20202031), 2000);
    Kit.due("2000 and 20", h.feed(1, 2, 3, 4, 5), -1);
    Kit.due("nothing is done", h.count(5), 2000);
    Kit.due("the last byte counts", h.run() + Kit.out(h), "0abc 1\n");
    Kit.due("the TAPE is empty again", h.feed(0, 0, 0, 0, 0), 20);
  }

  /** 3: The TAPE keeps its first n bytes: n. -1, and nothing is done: it has not so many, or n is below 0. */
  private static void end() {
    CommandHouse h = new CommandHouse();
    for (int n : FAR) {
      Kit.due("end of an empty TAPE at " + n, h.end(n), -1);
    }
    Kit.due("end at 1 of none", h.end(1), -1);
    Kit.due("end at 0 of none", h.end(0), 0);
    h.feed(0x6563686f, 0x20616263, 0x64656667, 0x68696a6b, 0x6c6d6e6f);
    for (int n : FAR) {
      Kit.due("end at " + n, h.end(n), -1);
      Kit.due("nothing is done", h.count(5), 20);
    }
    Kit.due("end at 21 of 20", h.end(21), -1);
    Kit.due("end at 20 of 20", h.end(20), 20);
    Kit.due("end at 7", h.end(7), 7);
    Kit.due("end at 8 of 7", h.end(8), -1);
    Kit.due("the first bytes", h.run() + Kit.out(h), "0ab\n");
    Kit.due("end behind a run", h.end(1), -1);
  }

  /** 4: The TAPE (which is empty then) is the INPUT of the next run. Answers its length. */
  private static void input() {
    CommandHouse h = new CommandHouse();
    Kit.due("of an empty TAPE", h.input(), 0);
    String all = Kit.times("abcdefghi\n", 200);
    Kit.lay(h, all);
    Kit.due("of a full TAPE", h.input(), 2000);
    Kit.due("the TAPE is empty", h.count(5), 0);
    Kit.lay(h, "cat");
    Kit.due("all of it", h.run() + Kit.out(h), "0" + all);
    Kit.lay(h, "cat; read x; echo $?");
    Kit.due("of the next run alone", h.run() + Kit.out(h), "01\n");
    Kit.lay(h, "a");
    h.input();
    Kit.due("an empty one in its place", h.input(), 0);
    Kit.lay(h, "cat");
    Kit.due("nothing is there", h.run() + Kit.out(h), "0");
    Kit.lay(h, "a");
    h.input();
    Kit.lay(h, ")");
    Kit.due("a run that is WRONG", h.run(), 2);
    Kit.lay(h, "cat");
    Kit.due("had it", h.run() + Kit.out(h), "0");
    Kit.lay(h, "a");
    h.input();
    Kit.lay(h, "b");
    h.input();
    Kit.lay(h, "cat");
    Kit.due("the latest", h.run() + Kit.out(h), "0b");
  }

  /** 5: its STATUS (of an exit what that tells); -1 to -4 a LIMIT (files are as they are then). OUT and DIAGNOSTICS are its own. */
  private static void run() {
    Kit.check("", "");
    Kit.check("exit 0", 0, "", "");
    Kit.check("exit 255", 255, "", "");
    Kit.check("f() { return 255; }; f", 255, "", "");
    String[] ends = {"while :; do :; done", "x=" + Kit.times("a", 500) + "; x=$x$x$x; x=$x$x", "set" + Kit.times(" a", 100),
        "f() { f; }; f"};
    for (int i = 0; i < ends.length; i++) {
      Kit k = Kit.fresh();
      k.run("echo old > f; x=1; f() { echo no; }; set a; nosuch; echo b; { echo new; " + ends[i] + "; echo no; } > f; echo no > g",
          -1 - i, "b\n", "1");
      Kit.due("the file", k.file("f"), "new\n");
      Kit.due("no other file", k.house().count(2), 1);
      Kit.due("DIAGNOSTICS stay", k.house().diagnostic(0), 1);
      Kit.due("the TAPE is empty", k.house().count(5), 0);
      k.run("echo $x$#$?; cat f", i == 0 ? -1 : 0, i == 0 ? "" : "00\nnew\n", "");
    }
    Kit k = Kit.fresh().run("echo a; nosuch", 127, "a\n", "1").run("x=1", "").run("", "");
    Kit.due("the TAPE is empty", k.house().count(5), 0);
  }

  /** 6: How many bytes OUT has. 7: Byte i of OUT; -1 if there is none. */
  private static void sizeAndOut() {
    CommandHouse h = Kit.fresh().run("echo a", "a\n").house();
    Kit.due("size", h.size(), 2);
    Kit.due("the first", h.out(0), 97);
    Kit.due("the last", h.out(1), 10);
    Kit.due("behind", h.out(2), -1);
    for (int i : FAR) {
      Kit.due("out at " + i, h.out(i), -1);
    }
    Kit k = Kit.fresh();
    Kit.due("4000 bytes", k.status(FULL + "x=${x%a}; for i in 1 2 3 4; do echo $x; done"), 0);
    Kit.due("size of 4000", k.house().size(), 4000);
    Kit.due("the last of 4000", k.house().out(3999), 10);
    Kit.due("behind 4000", k.house().out(4000), -1);
    Kit.due("none of the next run", k.status(":") + k.house().size() + k.house().out(0), -1);
  }

  /** 8: The i-th DIAGNOSTIC of the latest run; -1 if there is none. */
  private static void diagnostics() {
    Kit k = Kit.fresh().run("nosuch; cat no; test a b c; (echo ${x?}); (echo ${}); (set -u; echo $x); (echo $((x y))); (eval fi)",
        2, "", "12434567");
    CommandHouse h = k.house();
    Kit.due("the first", h.diagnostic(0), 1);
    Kit.due("the last", h.diagnostic(7), 7);
    Kit.due("behind", h.diagnostic(8), -1);
    for (int i : FAR) {
      Kit.due("diagnostic at " + i, h.diagnostic(i), -1);
    }
    k.run("true", "");
    Kit.due("none of the next run", h.diagnostic(0), -1);
  }

  /** 9: The place where the latest script of run() itself was WRONG; -1 if it was not, or did not come so far. */
  private static void wrong() {
    Kit k = Kit.fresh();
    CommandHouse h = k.house();
    k.run(")", 2, "", "7");
    Kit.due("at the first byte", h.wrong(), 0);
    k.run("", "");
    Kit.due("not WRONG", h.wrong(), -1);
    k.run(Kit.times(" ", 1999) + "'", 2, "", "7");
    Kit.due("at the end of a full TAPE", h.wrong(), 2000);
    k.run("set" + Kit.times(" a", 100) + "\n)", -3, "", "");
    Kit.due("a LIMIT ahead of it", h.wrong(), -1);
    k.run("echo ${}\n)", 1, "", "4");
    Kit.due("an ERROR ahead of it", h.wrong(), -1);
    k.run("eval 'fi\n'\n)", 2, "", "7");
    Kit.due("an eval that is WRONG ahead of it", h.wrong(), -1);
    k.run("x=$(fi)\n : )", 2, "", "77");
    Kit.due("a $( ) that is WRONG ahead of it", h.wrong(), 11);
    k.run("(exit 3)\nexit 4\n)", 4, "", "");
    Kit.due("an exit ahead of it", h.wrong(), -1);
  }

  /** 10: what = 0 to 5. -1: no such what. */
  private static void count() {
    CommandHouse h = new CommandHouse();
    for (int what : FAR) {
      Kit.due("count of " + what, h.count(what), -1);
    }
    Kit.due("count of 6", h.count(6), -1);
    for (int what = 0; what < 6; what++) {
      Kit.due("count of " + what, h.count(what), 0);
    }
    Kit k = Kit.fresh();
    k.run("true; x=1; : ; $x a; { eval :; }; f() { :; }; f; > g; echo a > g < no; $none; nosuch | nosuch", 127, "", "1211");
    // true : 1 eval : f : nosuch nosuch.
    Kit.due("SIMPLE commands", k.house().count(1), 9);
    Kit.due("files", k.house().count(2), 1);
    Kit.due("bytes of files", k.house().count(3), 0);
    Kit.due("DIAGNOSTICS", k.house().count(4), 4);
    k.run(")", 2, "", "7");
    Kit.due("SIMPLE commands of a WRONG script", k.house().count(1), 0);
    Kit.due("WORK goes on", Kit.fresh().run(":", "").run("", "").house().count(0), 5 + 1 + 5 + 2 + 5);
  }

  /** 11, 12: the i-th file (by names, by bytes): its bytes, byte k of it or of its name; -1 if there is none. */
  private static void filesAndBytes() {
    Kit k = Kit.fresh().run("echo 5 > '\u0080'; echo 4 > aa; echo 3 > a; echo 2 > 'A\n'; echo 1 > A; > '\u0001'; echo 6 > '\u00ff '", "");
    CommandHouse h = k.house();
    String[] names = {"\u0001", "A", "A\n", "a", "aa", "\u0080", "\u00ff "};
    Kit.due("files", h.count(2), names.length);
    for (int i = 0; i < names.length; i++) {
      Kit.due("size of " + i, h.file(i), i == 0 ? 0 : 2);
      Kit.due("the first byte of " + i, h.byteOf(i, false, 0), i == 0 ? -1 : '0' + i);
      Kit.due("behind the last byte of " + i, h.byteOf(i, false, h.file(i)), -1);
      for (int n = 0; n < names[i].length(); n++) {
        Kit.due("name " + i, h.byteOf(i, true, n), (int) names[i].charAt(n));
      }
      Kit.due("behind name " + i, h.byteOf(i, true, names[i].length()), -1);
      for (int far : FAR) {
        Kit.due("byte " + far + " of file " + i, h.byteOf(i, false, far), -1);
        Kit.due("byte " + far + " of name " + i, h.byteOf(i, true, far), -1);
      }
    }
    for (int far : new int[] {-1, 7, 20, Integer.MIN_VALUE, Integer.MAX_VALUE}) {
      Kit.due("file " + far, h.file(far), -1);
      Kit.due("byte of file " + far, h.byteOf(far, false, 0), -1);
      Kit.due("byte of name " + far, h.byteOf(far, true, 0), -1);
    }
    Kit f = Kit.fresh();
    Kit.due("a name and a file of 2000", f.status(FULL + "x=${x%a}b; x=$x$x; { echo $x; } > $x"), -2);
    Kit.due("the file of 2000", f.house().file(0), 2000);
    Kit.due("its last byte", f.house().byteOf(0, false, 1999), (int) 'b');
    Kit.due("behind it", f.house().byteOf(0, false, 2000), -1);
    Kit.due("the last byte of its name", f.house().byteOf(0, true, 1999), (int) 'b');
    Kit.due("behind its name", f.house().byteOf(0, true, 2000), -1);
  }

  // ---- 1 TOKENS

  private static void tokens() {
    // A BLANK is 9 or 32, NL is 10.
    for (int c = 0; c < 256; c++) {
      String text = "echo a" + (char) c + "b";
      if (c == 9 || c == 32) {
        Kit.check(text, "a b\n");
      } else if (c == 10 || c == ';') {
        Kit.check(text, 127, "a\n", "1");
      } else if ("&|()<>'\"\\$".indexOf(c) < 0) {
        Kit.check(text, "a" + (char) c + "b\n");
        Kit.check("x='a" + (char) c + "b'; for i in $x; do echo $i; done", "a" + (char) c + "b\n");
      }
    }
    // up to ahead of the next NL or to the end.
    Kit.check("#a\necho b #c", "b\n");
    Kit.check("echo b #", "b\n");
    Kit.check("#\necho b#", "b#\n");
    // the longest of.
    Kit.wrong("a &&& b", 4);
    Kit.wrong("a ||| b", 4);
    Kit.wrong("a ;;; b", 2);
    Kit.wrong("a <<< b", 4);
    Kit.wrong("a >>> b", 4);
    Kit.wrong("a |& b", 3);
    Kit.wrong("a &;", 2);
    Kit.check("echo a>>f>>g;cat g;cat<f<g", "a\na\n");
    // \ and the byte behind it (at the end: \ alone).
    Kit.check("echo \\\\ \\", "\\ \\\n");
    Kit.check("echo a \\\n", "a\n");
    Kit.check("\\", 127, "", "1");
    // A group without its end is WRONG at the end of the script.
    for (String open : new String[] {"'", "\"", "$(", "${", "$((", "\"$(", "\"${", "'\"", "$('", "${\"", "\"\\\"", "$(()"}) {
      Kit.wrong(open, open.length());
      Kit.wrong("echo a; echo b " + open + " \n # c\n", 15 + open.length() + 7);
    }
    Kit.check("echo '' \"\" ${x} $() $( ) . ''", "  . \n");
    // a 7th of " $( ${ in one another at its first byte.
    String[] opens = {"\"", "$(echo ", "${x-"};
    String[] closes = {"\"", ")", "}"};
    for (int seventh = 0; seventh < 3; seventh++) {
      for (int inner = 1; inner < 3; inner++) {
        if (seventh == 0 && inner == 0) {
          continue;
        }
        String six = Kit.times(opens[inner], 6);
        String end = Kit.times(closes[inner], 6);
        Kit.check("echo " + six + "a" + end, "a\n");
        Kit.check("echo " + six + "a'b'\\c" + end, "abc\n");
        Kit.wrong("echo " + six + "a" + opens[seventh] + "b" + closes[seventh] + end, 5 + six.length() + 1);
        Kit.wrong("echo " + six + "a" + opens[seventh], 5 + six.length() + 1);
      }
    }
  }

  private static void texts() {
    // the lines behind that NL up to the line that is the MARK, or to the end.
    Kit.check("cat << E", "");
    Kit.check("cat << E\n", "");
    Kit.check("cat << E\nE", "");
    Kit.check("cat << E\nE\nE\n", 127, "", "1");
    Kit.check("cat << E\n\nE", "\n");
    Kit.check("cat << E\na\n\n", "a\n\n");
    Kit.check("cat << E\na\nEE\n E\nE ", "a\nEE\n E\nE ");
    Kit.check("cat << E\na\nE\necho b", "a\nb\n");
    Kit.check("cat << ''\na\n\necho b", "a\nb\n");
    Kit.check("cat << ''\n\necho b", "b\n");
    Kit.check("cat << \"\"", "");
    // of several the first one's first; one without an end takes all.
    Kit.check("cat << A; cat << B\na\nB\nb\nA\nc\nA\nB\necho d", "a\nB\nb\nc\nA\nd\n");
    Kit.check("cat << A; cat << B\na\n", "a\n");
    Kit.check("cat << A; cat << A\na\nA\nb\nA\necho c", "a\nb\nc\n");
    // at the next NL that is a token of the script.
    Kit.check("cat << A 'x\ny' z; echo b\na\nA\n", 0, "b\n", "22");
    Kit.check("cat << A; echo b \\\nc # d << E\na\nA\n", "a\nb c\n");
    Kit.check("{ cat << A\na\nA\n}; echo b", "a\nb\n");
    Kit.check("cat << A && # c\na\nA\necho b", "a\nb\n");
    Kit.check("case a in << A\na) echo b;; esac", 2, "", "7");
    // a group without its end: ERROR 4; a PLAIN one as it is.
    for (String open : new String[] {"${", "$(", "$((", "${x-\"", "$('", "${x-$(}"}) {
      if (!open.contains("\"")) {
        Kit.check("cat << E\na" + open + "\nE\n", 1, "", "4");
      }
      Kit.check("cat << 'E'\na" + open + "\nE\n", "a" + open + "\n");
      Kit.check("cat << \\E; echo b\na" + open + "\nE\n", "a" + open + "\nb\n");
    }
    Kit.check("cat << E\n\" ' $ $ ( { \\\nE\necho a", "\" ' $ $ ( { a\n");
    Kit.check("cat << E\n" + Kit.times("${a-", 6) + "x" + Kit.times("}", 6) + "\nE\n", "x\n");
    Kit.check("cat << E\n" + Kit.times("${a-", 7) + "x" + Kit.times("}", 7) + "\nE\n", 1, "", "4");
  }

  // ---- 2 GRAMMAR

  private static void grammar() {
    // an 11th of ( { if while until for case in one another (up to their ) } fi done esac ).
    String[] opens = {"(", "{ ", "if :; then ", "if ", "while :; do ", "while ", "until false; do ", "until ", "for x in a; do ",
        "case a in a) ", "if :; then :; else ", "if false; then :; elif "};
    String[] closes = {")", "; }", "; fi", "; then :; fi", "; break; done", "; do break; done", "; break; done", "; do break; done",
        "; done", "; esac", "; fi", "; then :; fi"};
    for (int i = 0; i < opens.length; i++) {
      String nine = Kit.times("{ ", 9) + "%" + Kit.times("; }", 9);
      String ten = Kit.times("( ", 10) + "%" + Kit.times(")", 10);
      String one = opens[i] + "true" + closes[i];
      Kit.check(nine.replace("%", one), 0, "", "");
      Kit.wrong(ten.replace("%", one), 20);
      Kit.wrong(ten.replace("%", "true; " + one), 26);
      Kit.wrong(ten.replace("%", "f() " + one), 24);
      // Those that have ended do not count.
      Kit.check(nine.replace("%", one + "; " + one + "; f() " + one + "; " + one), 0, "", "");
      Kit.check(one + Kit.times("; " + one, 11), 0, "", "");
    }
    // LINES of NL alone are passed over; at least one AND-OR else.
    Kit.check("\n\n\t\n \n# a\n\\\n\n", "");
    Kit.wrong("\n\n;\n", 2);
    // any number of.
    Kit.check("if false; then :;" + Kit.times("elif false; then :;", 60) + "elif :; then echo a; fi", "a\n");
    Kit.check("case b in" + Kit.times(" a) echo b;;", 60) + " b) echo a;; esac", "a\n");
    Kit.check("case b in (" + Kit.times("a|", 60) + "b) echo a; esac", "a\n");
    Kit.check("case a in" + Kit.times("\n", 60) + "esac", "");
    Kit.check("{ echo a; }" + Kit.times(" > f", 60) + "; cat f", "a\n");
    Kit.check("f()" + Kit.times("\n", 60) + "{ echo a; }; f", "a\n");
    Kit.check(Kit.times("true && ", 60) + "echo a", "a\n");
    Kit.check(Kit.times("false ||\n\n", 60) + "echo a", "a\n");
    Kit.check("echo a" + Kit.times(" |\n cat", 9), "a\n");
    // perhaps: none of it.
    Kit.check("case a in esac; for i in; do :; done; f() { :; }; f; if :; then :; fi", "");
  }

  // ---- 3 WORDS

  private static void values() {
    // a digit 1 to 9; a number of up to 3 digits.
    String set = "set a b c d e f g h i j k; ";
    Kit.check(set + "echo $1 $9 $10 $11 ${1} ${9} ${10} ${11} ${011} ${001}", "a i a0 a1 a i j k k a\n");
    Kit.check(set + "echo $0 ${0}. ${12}. ${999}. ${000}. ${#12} ${#11}", "$0 . . . . 0 1\n");
    Kit.check(set + "echo ${1000}", 1, "", "4");
    Kit.check(set + "echo ${0011}", 1, "", "4");
    Kit.check(set + "echo ${#1000}", 1, "", "4");
    Kit.check(set + "echo ${1000-a}", 1, "", "4");
    // how many bytes that has.
    Kit.check("x=; echo ${#x}${#y}${#1}${#?}; exit ${#x}", 0, "0001\n", "");
    Kit.check(FULL + "y=$x$x; echo ${#y} ${#x}; (exit 200); echo ${#?}", "2000 1000\n3\n");
    // what is empty, what is unset.
    String vars = "e=; s=a; ";
    Kit.check(vars + "echo ${e:-w}${e-w}${u:-w}${u-w}${s:-w}${s-w}", "wwwaa\n");
    Kit.check(vars + "echo ${e:+w}${e+w}${u:+w}${u+w}${s:+w}${s+w}.", "www.\n");
    Kit.check(vars + "echo ${e=w}${u=v}$u$e; echo ${e:=w}$e", "vv\nww\n");
    Kit.check(vars + "echo ${s?w}${s:?w}${e?w}; (echo ${e:?w}); (echo ${u?w}); (echo ${u:?w}); echo $?", 0, "aa\n1\n", "333");
    Kit.check("set ''; echo ${1-w}${1:-w}${2-w}${2:-w}${1+w}${1:+w}${2+w}", "wwww\n");
    Kit.check("set ''; echo ${1:=w}", 1, "", "4");
    Kit.check("set ''; echo ${1=w}.${?=w}.${?:=w}", ".0.0\n");
    Kit.check("set ''; echo ${2=w}", 1, "", "4");
    Kit.check("echo ${0=w}", 1, "", "4");
    // The WORD is expanded where it is wanted, not else.
    for (String not : new String[] {"${s-%}", "${s:-%}", "${s=%}", "${s:=%}", "${s?%}", "${s:?%}", "${u+%}", "${u:+%}", "${e:+%}", "${e-%}"}) {
      Kit.check(vars + ": " + not.replace("%", "$(echo a > f)") + "; cat f", 1, "", "2");
    }
    for (String word : new String[] {"${s#%}", "${s%%}", "${s##%}", "${s%%%}", "${u-%}", "${u=%}", "${s+%}", "${e:-%}", "${s:+%}"}) {
      Kit.check(vars + ": " + word.substring(0, word.lastIndexOf('%')) + "$(echo a > f)}; cat f", "a\n");
    }
    // ERROR 5 under u.
    for (String form : new String[] {"$u", "${u}", "${#u}", "${u#a}", "${u%%a}", "$1", "${1}", "${#1}", "${1##a}", "\"$u\"", "a$u"}) {
      Kit.check("set -u; : " + form + "; echo a", 1, "", "5");
      Kit.check("set -u; u= ; set -- ''; : " + form + "; echo a", "a\n");
    }
    Kit.check("set -u; : ${u-} ${u:-} ${u+} ${u:+} $* $@ $# $? \"$*\" \"$@\" ${*} ${@} $((u)) ${u=}; echo a$u", "a\n");
  }

  private static void expressions() {
    // numbers of 1 to 9 digits; ints that wrap.
    Kit.check("echo $((0)) $((000000007)) $((999999999)) $((-999999999))", "0 7 999999999 -999999999\n");
    Kit.check("x=999999999; y=-999999999; echo $((x)) $((y)) $((-y)) $((- x))", "999999999 -999999999 999999999 -999999999\n");
    for (String bad : new String[] {"1234567890", "0000000000", "1a", "- -", "--1", "-", "+1", " 1", "1 ", "0x1", "1.0", "b", "\n"}) {
      Kit.check("x='" + bad + "'; echo $((x)); echo a", 1, "", "6");
    }
    Kit.check("x=; echo $((x)) $((y)) $((x + y + 1))", "0 0 1\n");
    Kit.check("x=$((214748364*10)); echo $x; echo $((214748364*10+7)) $((214748364*10+8)) $((-214748364*10-8)) $((-214748364*10-9))",
        "2147483640\n2147483647 -2147483648 -2147483648 2147483647\n");
    Kit.check("echo $((65536*65536)) $((65536*32768)) $((46341*46341)) $((-(65536*32768)))", "0 -2147483648 -2147479015 -2147483648\n");
    Kit.check("echo $((65536*32768/-1)) $((65536*32768%-1)) $((65536*32768/65536))", "-2147483648 0 -32768\n");
    Kit.check("echo $((7/-2)) $((-7/2)) $((7%-2)) $((-7%2)) $((0/7)) $((0%7))", "-3 -3 1 -1 0 0\n");
    // by 0: ERROR 6.
    for (String by : new String[] {"1/0", "1%0", "0/0", "0%0", "1/x", "0&&1/0", "1||1%0", "1/(2-2)", "-1/-0"}) {
      Kit.check("echo a; echo $((" + by + ")); echo b", 1, "a\n", "6");
    }
    // an 11th ( in one another.
    Kit.check("echo $((" + Kit.times("(", 10) + "1" + Kit.times(")", 10) + "))", "1\n");
    Kit.check("echo $((" + Kit.times("(", 11) + "1" + Kit.times(")", 11) + "))", 1, "", "6");
    Kit.check("echo $((" + Kit.times("(1)+", 20) + "1))", "21\n");
    Kit.check("echo $((" + Kit.times("-(", 10) + "1" + Kit.times(")", 10) + "))", "1\n");
    // nothing, BLANKS and NLS alone.
    for (String none : new String[] {"", " ", "\n", "\t \n", "${x}", "()", "( )", "''"}) {
      Kit.check("echo $((" + none + "))", 1, "", "6");
    }
    Kit.check("echo $((\n 1\t+\n2 ))", "3\n");
    String most = Kit.times("-", 1980) + "1";
    Kit.check("echo $((" + most + "))", "1\n");
    Kit.check("echo $((" + Kit.times("!", 1981) + "1))", "0\n");
    Kit.check("echo $((1" + Kit.times("+1", 900) + "))", "901\n");
    Kit.check("echo $((1" + Kit.times("||1", 600) + "))", "1\n");
  }

  private static void fields() {
    String show = "; echo $#; for i do echo \"<$i>\"; done";
    // nothing at all, if it stands alone in these " " and there is no parameter.
    for (String none : new String[] {"\"$@\"", "\"${@}\"", "$@", "$*", "${@}", "${*}", "$@$*", "\"$@\"\"$@\"", "\"$@\"$@", "$x", "$x$y",
        "${x-}", "$(:)", "${x+a}", "$x\"$@\"$y", "\\\n"}) {
      Kit.check("set -- " + none + show, "0\n");
    }
    for (String one : new String[] {"\"$*\"", "\"$@$@\"", "\"$@\"''", "\"\"$@", "\"$x$@\"", "''", "\"\"", "$x''", "\"$x\"", "\"$@$x\"",
        "\"${x-}\"", "\"$(:)\"", "\"${@}${*}\"", "${x-''}", "${x-\"\"}", "\"${x-$@}\"", "'' $x", "$x '' $y"}) {
      Kit.check("set -- " + one + show, "1\n<>\n");
    }
    Kit.check("set -- 'a b'; set -- \"$@\"" + show, "1\n<a b>\n");
    Kit.check("set -- 'a b'; set -- x\"$@\"y\"$@\"z" + show, "1\n<xa bya bz>\n");
    Kit.check("set -- ''; set -- \"$@\"" + show, "1\n<>\n");
    Kit.check("set -- '' ''; set -- \"$@\"" + show, "2\n<>\n<>\n");
    Kit.check("set -- '' ''; set -- $@ $*" + show, "0\n");
    Kit.check("set -- a b; set -- x\"$@\"y" + show, "2\n<xa>\n<by>\n");
    // BLANKS and NLS end a field (they are gone).
    for (String blank : new String[] {" ", "\t", "\n", "  ", " \t\n"}) {
      Kit.check("x='" + blank + "'; set -- $x" + show, "0\n");
      Kit.check("x='" + blank + "'; set -- a${x}b$x ${x}c" + show, "3\n<a>\n<b>\n<c>\n");
      Kit.check("x='" + blank + "'; set -- \"$x\"$x\"$x\"" + show, "2\n<" + blank + ">\n<" + blank + ">\n");
      Kit.check("x='" + blank + "'; y=$x; set -- \"a$y\"" + show, "1\n<a" + blank + ">\n");
    }
    // without the NLS at its end.
    Kit.check("set -- \"$(echo)\" \"$(echo; echo)\" \"$(echo; echo a; echo; echo)\" \"$(cat < f)\"" + show, 0,
        "4\n<>\n<>\n<\na>\n<>\n", "2");
    Kit.check("set -- \"$(echo 'a '; echo)\"x" + show, "1\n<a x>\n");
    // names of files; itself, if there are none; not under f.
    Kit.check("echo * ? [a]", "* ? [a]\n");
    Kit.check("> a; echo * ? [a] a* *a [!a] ?? b* '*' \"?\" \\[a]", "a a a a a [!a] ?? b* * ? [a]\n");
    Kit.check("> a; set -f; echo * ? [a]; set +f; echo *", "* ? [a]\na\n");
    Kit.check("> a; > b; > ab; x=*; set -- $x \"$x\" ${x} '*'$x" + show, "8\n<a>\n<ab>\n<b>\n<*>\n<a>\n<ab>\n<b>\n<**>\n");
  }

  private static void patterns() {
    // ] first is itself; without its ] the [ is itself; a range; ! first.
    String[] yes = {"[]] ]", "[!]] a", "[]a] ]", "[]a] a", "[a ''[a", "[ [", "[] []", "[!] [!]", "[!a b", "[a-c] b", "[a-a] a",
        "[a-] -", "[-a] -", "[a-c-e] e", "[a-c-e] -", "[!a-c] d", "[+--] ,", "[]-a] ^", "[a!] !", "[!!] a", "* ''", "** ''",
        "*? a", "?* a", "*a* a", "'' ''", "[[] [", "[*] '*'", "[?] '?'", "[a]] a]", "[\\]] ]", "[\\!] !", "[a\\-z] -", "\\[a] [a]"};
    String[] no = {"[]] a", "[!]] ]", "? ''", "[a] ''", "?? a", "[c-a] b", "[c-a] c", "[a-] b", "[!a-c] b", "[a\\-z] b", "'[a]' a", "\\* a",
        "\"?\" a", "[a] ab", "a A", "[a b]", "[ '[]'", "*a b", "[!!] !", "a* ba", "'' a"};
    for (String row : yes) {
      String[] two = row.split(" ", 2);
      if (!two[0].equals("[!a")) {
        Kit.check("case " + two[1] + " in " + two[0] + ") echo y;; *) echo n;; esac", "y\n");
      }
    }
    for (String row : no) {
      String[] two = row.split(" ", 2);
      Kit.check("case " + two[1] + " in " + two[0] + ") echo y;; *) echo n;; esac", "n\n");
    }
    // the shortest, the longest beginning (end); nothing of it, all of it.
    Kit.check("x=abab; echo ${x#*b} ${x##*b}. ${x%a*} ${x%%a*}. ${x#} ${x##} ${x%} ${x%%}", "ab . ab . abab abab abab abab\n");
    Kit.check("x=abab; echo ${x#c} ${x%c} ${x#abab}. ${x%abab}. ${x#ababa} ${x%aabab} ${x##?}", "abab abab . . abab abab bab\n");
    Kit.check("x=; echo ${x#a}.${x##*}.${x%?}.${x%%*}.${u#a}.${u%%*}", ".....\n");
    Kit.check(FULL + "y=$x$x; z=${y#$x}; echo ${#z}; z=${y%%$x*}; echo ${#z}; z=${y##$y}; echo ${#z}", "1000\n0\n0\n");
    // all bytes.
    Kit.check("x='\u0000\u0001\u007f\u0080\u00ff'; case $x in ?????) echo y;; esac; echo ${x#?} ${x%%[\u0080-\u00ff]*}",
        "y\n\u0001\u007f\u0080\u00ff \u0000\u0001\u007f\n");
  }

  // ---- 4 RUNNING

  private static void simple() {
    // Without a field; with an empty one.
    Kit.check("false; $x; echo $?; false; x=; echo $?; false; > f; echo $?; false; $x $y; echo $?", "0\n0\n0\n0\n");
    Kit.check("''; echo $?; \"$x\"; echo $?; \"$@\"; echo $?; \"$*\"; echo $?", 0, "127\n127\n0\n127\n", "111");
    Kit.check("$x echo a; $x y=1; echo $?", 0, "a\n127\n", "1");
    // STATUS is that of the latest $( ) that was run for it, else 0.
    Kit.check("x=$(exit 3); echo $?; x=$(exit 3)$(:); echo $?; $(exit 4); echo $?; x=a$(exit 255); echo $?; false; x=; echo $?",
        "3\n0\n4\n255\n0\n");
    Kit.check("x=$(exit 3) y=${z:-$(exit 5)} true; echo $?; x=$((1)); echo $?; x=${x:-$(exit 6)}; echo $?", "0\n0\n0\n");
    // the first one names a FUNCTION, else a BUILT-IN, else: DIAGNOSTIC 1, STATUS 127.
    Kit.check("true() { return 3; }; true; echo $?; unset true; true; echo $?; tru; echo $?; truee; echo $?; True; echo $?", 0,
        "3\n0\n127\n127\n127\n", "111");
    for (String not : new String[] {"tru", "falsee", "ech", "echo1", "ca", "catt", "tes", "tests", "rea", "readd", "::", "se", "sett", "shif",
        "unse", "eva", "evals", "retur", "brea", "continu", "exi", "if1", "e", "t", "r", "c", "s", "u", "b", "f", "[", ".", "x y"}) {
      Kit.check("'" + not + "'; echo $?", 0, "127\n", "1");
    }
  }

  private static void redirections() {
    // it FAILS with DIAGNOSTIC 2 if there is none; if word is empty.
    Kit.check("cat < f; echo $?; cat < ''; echo $?; > ''; echo $?; >> \"\"; echo $?; > $x; echo $?; < $x; echo $?", 0,
        "1\n1\n1\n1\n1\n1\n", "222222");
    Kit.check("cat << ''; echo $?; << E; echo $?\n\nE\n", "0\n0\n");
    // the file is there and empty; likewise without emptying.
    Kit k = Kit.fresh().run("> f; >> g; cat < f; cat < g; echo $?", "0\n");
    Kit.due("two empty files", k.house().count(2) + k.house().count(3), 2);
    k.run("echo a > f; echo b >> f; >> f; cat f; > f; cat f; echo c >> f; : >> f; cat f", "a\nb\nc\n");
    k.run("nosuch > h; cat no > i; test a b > j", 2, "", "124");
    Kit.due("they are there", k.house().count(2), 5);
    // from its beginning; each byte that is taken is gone for all that have this INPUT.
    k.run("echo 'a\nb\nc' > f; { read x; (read x); y=$(read x; echo $x); read x; echo $? $y [$x]; } < f; read x < f; echo $x", "1 c []\na\n");
    k.with("a\nb\nc\nd\ne").run("read x; (read y); f() { read y; }; f; z=$(cat); read y; echo $? $x [$y] \"$z\"; cat", "1 a [] d\ne\n");
  }

  private static void rows() {
    // 1, if it is 0, else 0.
    Kit.check("! true; echo $?; ! false; echo $?; ! (exit 255); echo $?; ! nosuch; echo $?", 0, "1\n0\n0\n0\n", "1");
    // 0 if nothing is run.
    Kit.check("false; if false; then (exit 3); fi; echo $?; if false; then :; elif (exit 4); then :; fi; echo $?", "0\n0\n");
    // the STATUS of the latest second one, or 0.
    for (String loop : new String[] {"while false; do :; done", "until true; do :; done", "for i in; do :; done", "for i in $none; do :; done",
        "for i; do :; done", "for i in \"$@\"; do :; done", "while false || break; do :; done", "case a in esac", "case a in b) false;; esac",
        "case a in a) ;; esac", "case a in a) esac"}) {
      Kit.check("false; " + loop + "; echo $?", "0\n");
      Kit.check("(exit 9); " + loop + " || echo no", "");
    }
    Kit.check("for i in 1 2; do (exit $i); done; echo $?; i=0; while test $i = 0; do i=1; (exit 7); done; echo $?", "2\n7\n");
    // patterns one behind the other, the first that matches.
    Kit.check("case '' in '') echo a;; *) echo b;; esac; case $none in ?) echo a;; \"\") echo b;; esac", "a\nb\n");
    // as parameters (as before then).
    Kit.check("f() { echo $#; }; f; f ''; f a b; set x y z; f; f $none; f \"$@\"; echo $#", "0\n1\n2\n0\n0\n3\n3\n");
  }

  private static void builtins() {
    // test: how many arguments there are.
    Kit.check("test; echo $?; test ''; echo $?; test a; echo $?; test '' ''; echo $?; test a '' b; echo $?; test a b c d; echo $?", 0,
        "1\n1\n0\n2\n2\n2\n", "444");
    Kit.check("test ! a b c; echo $?; test ! ! ! a; echo $?; test $none; echo $?; test \"$none\"; echo $?", 0, "2\n2\n1\n1\n", "44");
    // read: no NL, no bytes, no NAMES, more NAMES than words.
    Kit.fresh().with("").run("x=1; read x; echo $? [$x]", "1 []\n");
    Kit.fresh().with("a").run("read x; echo $? [$x]; read x; echo $? [$x]", "1 [a]\n1 []\n");
    Kit.fresh().with("\n").run("x=1; read x; echo $? [$x]; read x; echo $?", "0 []\n1\n");
    Kit.fresh().with(" \t \n \t").run("read x y; echo \"$? [$x][$y]\"; read x y; echo \"$? [$x][$y]\"", "0 [][]\n1 [][]\n");
    Kit.fresh().with("a\n").run("y=1; read x y z; echo $? [$x] [$y] [$z]; read; echo $?", "0 [a] [] []\n1\n");
    Kit.fresh().with(" a\tb  c \td \n").run("read x y; echo \"[$x][$y]\"", "[a][b  c \td]\n");
    Kit.fresh().with(" a b \n").run("read x; echo \"[$x]\"", "[a b]\n");
    Kit.fresh().with("a\n").run("read 1; echo $?; read x 1; echo $?; read x ''; echo $?; read x; echo $x", 0, "2\n2\n2\na\n", "444");
    Kit.fresh().with(Kit.times("a", 1999) + "\n").run("read x; echo ${#x} $?; read y; echo $?", "1999 0\n1\n");
    Kit.fresh().with(Kit.times("a", 2000)).run("read x; echo ${#x} $?; cat", "2000 1\n");
    // set: as they were, if none stand and no --.
    Kit.check("set a b; set; echo $#; set -u; echo $#; set -f +f +u; echo $#; set ''; echo $#; set --; echo $#; set -f --; echo $#",
        "2\n2\n2\n1\n0\n0\n");
    // shift: n is no number of 0 or more, or there are not so many.
    Kit.check("set a b c; shift 0; echo $#; shift 3; echo $#; shift 0; echo $?; shift; echo $?; shift 1; echo $?", 0, "3\n0\n0\n1\n1\n", "44");
    Kit.check("set a b c; shift 4; echo $? $#; shift -1; echo $? $#; shift a; echo $? $#; shift ''; echo $? $#; shift 0000000003; echo $?; "
        + "shift 000000003; echo $? $#", 0, "1 3\n1 3\n1 3\n1 3\n1\n0 0\n", "44444");
    // unset: those ahead of it are unset.
    Kit.check("a=1 b=2 c=3; unset a 1 b; echo $? $a.$b$c; unset '' c; echo $? $c; unset; echo $?; unset d; echo $?", 0,
        "2 .23\n2 3\n0\n0\n", "44");
    // eval: no field, empty ones.
    Kit.check("false; eval; echo $?; false; eval ''; echo $?; false; eval '' ' ' '#'; echo $?; false; eval '\n\n'; echo $?", "0\n0\n0\n0\n");
    // echo, cat: nothing.
    Kit.check("echo; echo ''; echo '' ''; cat; cat < f; echo $?; > f; cat f f; echo $?; cat '' f; echo $?", 0, "\n\n \n1\n0\n1\n", "22");
  }

  private static void numbers() {
    // exit, return: 0 to 255, or the STATUS as it is without n. break, continue: 1 or more; at most all loops around.
    for (String end : new String[] {"exit", "return"}) {
      for (String fine : new String[] {"0", "1", "254", "255", "00", "000000255", "-0", "255 256", "0 a"}) {
        Kit.check(end + " " + fine + "; echo a", Integer.parseInt(fine.split(" ")[0]), "", "");
        Kit.check("f() { (" + end + " " + fine + "); }; f; x=$(" + end + " " + fine + "); exit $?", Integer.parseInt(fine.split(" ")[0]), "", "");
      }
      for (String bad : new String[] {"256", "999999999", "-1", "-255", "1000000000", "0000000000", "''", "a", "1a", "- 1", "+1", "$((1 - 2))"}) {
        Kit.check(end + " " + bad + "; echo a", 2, "", "4");
        Kit.check("(" + end + " " + bad + "; echo a); echo $?", 0, "2\n", "4");
        Kit.check("f() { " + end + " " + bad + "; }; f; echo a", 2, "", "4");
        Kit.check("true | " + end + " " + bad + "; echo $?", 0, "2\n", "4");
      }
      Kit.check("(exit 9); " + end + "; echo a", 9, "", "");
      Kit.check("(exit 9); (" + end + "; echo a); echo $?", "9\n");
      Kit.check(end + " $none", 0, "", "");
    }
    for (String end : new String[] {"break", "continue"}) {
      for (String fine : new String[] {"", "1", "2", "3", "255", "256", "999999999", "01", "1 a", "2 0"}) {
        Kit.check(end + " " + fine + "; echo $?", "0\n");
        Kit.check("for i in 1; do for j in 1; do " + end + " " + fine + "; echo no; done; done; echo $?", "0\n");
      }
      for (String bad : new String[] {"0", "-1", "1000000000", "''", "a", "-0", "000", "1a"}) {
        Kit.check(end + " " + bad + "; echo a", 2, "", "4");
        Kit.check("for i in 1; do (" + end + " " + bad + "; echo a); echo $?; done", 0, "2\n", "4");
        Kit.check("for i in 1; do " + end + " " + bad + "; echo a; done; echo b", 2, "", "4");
      }
    }
    Kit.check("for i in 1 2; do for j in 1 2; do for k in 1 2; do echo $i$j$k; break 2; done; done; done", "111\n211\n");
    Kit.check("for i in 1 2; do for j in 1 2; do for k in 1 2; do echo $i$j$k; continue 2; done; done; done", "111\n121\n211\n221\n");
    Kit.check("for i in 1 2; do for j in 1 2; do for k in 1 2; do echo $i$j$k; break 3; done; done; done", "111\n");
    Kit.check("for i in 1 2; do for j in 1 2; do for k in 1 2; do echo $i$j$k; break 4; done; done; done", "111\n");
    Kit.check("for i in 1 2; do for j in 1 2; do for k in 1 2; do echo $i$j$k; continue 4; done; done; done", "111\n211\n");
    Kit.check("f() { for k in 1 2; do echo $i$k; break 2; done; }; for i in 1 2; do f; done", "11\n21\n");
    Kit.check("for i in 1 2; do (for k in 1 2; do echo $i$k; break 2; done); done", "11\n21\n");
  }

  /** At most so many of each; one more is -2 or -3. */
  private static void limits() {
    String two = FULL + "y=$x$x; ";
    String[] full = {"z=$y", ": $y", "echo $y | :", "z=$(echo ${y%a})", "cat << E\n${y%a}\nE", "{ echo ${y%a}; } > f", "echo ${y%a} | cat",
        "case $y in $y) ;; esac", "set ${x%a} $x; : \"$*\"", "set ${x%a} $x; z=$@", ": ${none-$y}", ": ${none:=$y}", "> $y",
        "eval : ${y%aa}", "for i in $y; do :; done", "echo ${y%a} > f; cat f > g", "(echo ${y%a}) | (cat)"};
    String[] above = {"z=${y}a", ": ${y}a", "echo $y | :", "z=$(echo $y)", "cat << E\na$y\nE", "{ echo $y; } > f", "echo $y | cat",
        "case $y in ${y}a) ;; esac", "set $x $x; : \"$*\"", "set $x $x; z=$@", ": ${none-${y}a}", ": ${none:=a$y}", "> ${y}a",
        "eval : $y", "for i in a$y; do :; done", "echo ${y%a} > f; echo >> f", "(echo $y) | (cat)"};
    for (int i = 0; i < full.length; i++) {
      if (!full[i].startsWith("echo $y | :")) {
        Kit.due("2000: " + full[i], Kit.fresh().status(two + full[i]), 0);
      }
      Kit.due("2001: " + above[i], Kit.fresh().status(two + above[i]), -2);
    }
    Kit.due("eval of 2000", Kit.fresh().status(two + "z=${y#aaaa}; eval : x=$z"), 0);
    Kit.due("eval of 2001", Kit.fresh().status(two + "z=${y#aaa}; eval : x=$z"), -2);
    // The fields of one WORD are a text each.
    String begun = FULL + "y=\"b $x\"; ";
    Kit.check(begun + "set -- $y$x; echo $# ${#1} ${#2}; set -- $y' '$y' '$y; echo $# ${#2} ${#3} ${#4}", "2 1 2000\n4 1002 1002 1000\n");
    Kit.check(begun + "set -- $y${x}c; echo $#", -2, "", "");
    Kit.check(begun + "set -- $x$y$x; echo $# ${#1} ${#2}; set 1 2 3 4; set -- \"$x$@$x\"$y; echo $# ${#4} ${#5}", "2 1001 2000\n5 1002 1000\n");
    Kit.check(begun + "set -- ${x}c$x; echo $#", -2, "", "");
    Kit.check(begun + "(: $x${x}c${none?}); echo $?", -2, "", "");
    StringBuilder variables = new StringBuilder();
    StringBuilder functions = new StringBuilder();
    StringBuilder files = new StringBuilder();
    for (int i = 0; i < 60; i++) {
      variables.append("v" + i + "=;");
      functions.append(i < 30 ? "f" + i + "()(:);" : "");
      files.append(i < 20 ? ">f" + i + ";" : "");
    }
    Kit.check(variables + "v0=a; for v1 in a; do :; done; read v2 v59; : ${v3:=b}; v4=1 true; (v5=1); echo $v0$v1$v3", "aab\n");
    Kit.check(variables + "w=; echo a", -3, "", "");
    Kit.check(functions + "f0()(echo a); (f29()(:)); f0", "a\n");
    Kit.check(functions + "g()(:); echo a", -3, "", "");
    Kit.check(functions + "(g()(:)); echo a", -3, "", "");
    Kit.check(functions + "unset f0; g()(echo a); g", "a\n");
    Kit.check(files + "> f0; >> f19; : > f7; echo a", "a\n");
    Kit.check(files + "> g; echo a", -3, "", "");
    Kit.check(files + "(echo a >> g); echo a", -3, "", "");
    Kit.check(files + "cat < g; echo a", 0, "a\n", "2");
    Kit.check(":" + Kit.times(" a", 99) + "; echo b", "b\n");
    Kit.check(":" + Kit.times(" a", 100) + "; echo b", -3, "", "");
    Kit.check("x='" + Kit.times("a ", 99) + "'; : $x; set $x; echo $#; : \"$@\"; for i in $x $1; do :; done; f() { echo $#; }; f $x", "99\n99\n");
    Kit.check("x='" + Kit.times("a ", 100) + "'; : $x; echo b", -3, "", "");
    Kit.check("x='" + Kit.times("a ", 100) + "'; for i in $x; do :; done; $x; echo b", 0, "b\n", "1");
    Kit.check("x='" + Kit.times("a ", 101) + "'; $x; echo b", -3, "", "");
    Kit.check("x='" + Kit.times("a ", 101) + "'; for i in $x; do :; done; echo b", -3, "", "");
    Kit.check("x='" + Kit.times("a ", 99) + "'; set $x; : \"$@\" b", -3, "", "");
    String many = Kit.times("a\n", 100);
    Kit.check(many, 127, "", Kit.times("1", 100));
    Kit.check(many + "a\n", -3, "", Kit.times("1", 100));
    Kit.check(many + "echo b; cat no", -3, "b\n", Kit.times("1", 100));
    Kit.check(many + "echo ${}", -3, "", Kit.times("1", 100));
    Kit.check(many + "(test a b); echo b", -3, "", Kit.times("1", 100));
    Kit.check(many + ")", -3, "", Kit.times("1", 100));
  }
}
